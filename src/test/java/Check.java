/** What the tests share: counts what is wrong, lays texts on shelves. */
final class Check {
    static final int[] NO_SHELF = {-1, 8, Integer.MIN_VALUE, Integer.MAX_VALUE};

    private final String name;
    private int wrong = 0;

    Check(String name) {
        this.name = name;
    }

    void due(String what, long got, long want) {
        if (got != want) {
            wrong++;
            System.out.println(name + ": " + what + " answered " + got + ", due is " + want);
        }
    }

    void end() {
        System.out.println(name + ": " + (wrong == 0 ? "all as due" : wrong + " wrong"));
        if (wrong != 0) {
            System.exit(1);
        }
    }

    static void lay(KitchenCards x, int d, String text) {
        x.row(d, 0, text.length());
        for (int i = 0; i < text.length(); i++) {
            x.put(d, i, text.charAt(i));
        }
    }

    /** A ROW of bytes with these elements. */
    static void layBytes(KitchenCards x, int d, int... elements) {
        x.row(d, 0, elements.length);
        for (int i = 0; i < elements.length; i++) {
            x.put(d, i, elements[i]);
        }
    }

    static int line(KitchenCards x, String text) {
        lay(x, 7, text);
        return x.line(7);
    }

    static int given(KitchenCards x, String text) {
        int line = line(x, text);
        x.give(line);
        return line;
    }

    static int program(KitchenCards x, String text) {
        lay(x, 7, text);
        return x.program(7);
    }

    static int fault(String text) {
        KitchenCards x = new KitchenCards();
        lay(x, 0, text);
        return x.fault(0);
    }

    static String letters(KitchenCards x, int line) {
        StringBuilder text = new StringBuilder();
        for (int i = 0; i < 200 && x.letter(line, i) >= 0; i++) {
            text.append((char) x.letter(line, i));
        }
        return text.toString();
    }

    static String need(KitchenCards x, int program, int line, int i) {
        StringBuilder text = new StringBuilder();
        for (int j = 0; j < 200 && x.need(program, line, i, j) >= 0; j++) {
            text.append((char) x.need(program, line, i, j));
        }
        return text.toString();
    }

    static String widest(KitchenCards x, int a, int b) {
        StringBuilder text = new StringBuilder();
        for (int i = 0; i < 500 && x.widest(a, b, i) >= 0; i++) {
            text.append((char) x.widest(a, b, i));
        }
        return text.toString();
    }

    static String must(KitchenCards x, int a, int b, char letter) {
        StringBuilder text = new StringBuilder();
        for (int i = 0; i < 200 && x.must(a, b, letter, i) >= 0; i++) {
            text.append((char) x.must(a, b, letter, i));
        }
        return text.toString();
    }

    void same(String what, String got, String want) {
        if (!got.equals(want)) {
            wrong++;
            System.out.println(name + ": " + what + " is " + got + ", due is " + want);
        }
    }

    static String times(String part, int n) {
        StringBuilder text = new StringBuilder();
        for (int i = 0; i < n; i++) {
            text.append(part);
        }
        return text.toString();
    }

    /** An object with these lines, all sought. */
    static KitchenCards with(String... lines) {
        KitchenCards x = new KitchenCards();
        for (String text : lines) {
            line(x, text);
        }
        return x;
    }

    /** ( ~..~ p v ~..~ q ) with so many ~ on the left and right; a line of left + right + 5 bytes. */
    static String wide(int left, int right) {
        return "(" + times("~", left) + "pv" + times("~", right) + "q)";
    }

    /** A line of 60 bytes: SIZE 50, 13 LEVELS. */
    static String sixty() {
        return "(" + wide(10, 10) + "v(" + wide(9, 9) + "v" + wide(0, 1) + "))";
    }

    /** What element throws: 1 IllegalArgumentException, 2 IllegalStateException, 0 nothing. */
    static int thrown(KitchenCards x, int d, int i) {
        try {
            x.element(d, i);
            return 0;
        } catch (IllegalArgumentException none) {
            return 1;
        } catch (IllegalStateException none) {
            return 2;
        }
    }
}

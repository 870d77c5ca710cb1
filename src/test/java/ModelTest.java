import java.util.Random;

/** All promises: runs of calls drawn by seeds, each answer compared with the model's. */
public final class ModelTest {
    private static final int RUNS = 400;
    private static final int CALLS = 512;
    /** No act takes more calls: a text of 120 bytes laid, and what is asked of it. */
    private static final int DEAREST = 130;
    private static final Check check = new Check("ModelTest");

    private final Random random;
    private final String name;
    /** 0: lines of all shapes; 1: lines of few parts, so that steps are many; 2: both. */
    private final int mode;
    private final KitchenCards x = new KitchenCards();
    private final Model model = new Model();
    private int calls = 0;

    private ModelTest(int seed) {
        random = new Random(seed);
        name = "seed " + seed;
        mode = seed % 3;
    }

    public static void main(String[] args) {
        for (int seed = 0; seed < RUNS; seed++) {
            new ModelTest(seed).go();
        }
        check.end();
    }

    private void go() {
        int base = random.nextInt(4);
        for (int i = 0; i < base * 2; i++) {
            newLine(random.nextInt(3) > 0);
        }
        newProgram();
        while (calls < CALLS - DEAREST) {
            act();
        }
    }

    private void due(String call, long got, long want) {
        calls++;
        check.due(name + ", call " + calls + ": " + call, got, want);
    }

    private int odd(int n) {
        int[] far = {-1, n, n + 1, Integer.MIN_VALUE, Integer.MAX_VALUE, -2};
        return random.nextInt(40) == 0 ? far[random.nextInt(far.length)] : random.nextInt(Math.max(1, n));
    }

    private int anyLine() {
        return odd(model.count(0));
    }

    private int soughtLine() {
        for (int i = 0; i < 20; i++) {
            int line = anyLine();
            if (model.of(line, 5) == 0) {
                return line;
            }
        }
        return anyLine();
    }

    private String drawLine(int deep) {
        int kind = random.nextInt(deep <= 0 ? 1 : 7);
        if (kind == 0 && deep >= 3) {
            kind = random.nextInt(10);
        }
        if (kind == 0) {
            return "" + "pqrstu".charAt(random.nextInt(random.nextInt(4) == 0 ? 6 : 3));
        }
        if (kind == 1) {
            return "~" + drawLine(deep - 1);
        }
        return "(" + drawLine(deep - 1) + (random.nextInt(3) == 0 ? "v" : ">") + drawLine(deep - 1) + ")";
    }

    private static final String[] KNOWN_ONES = {"((pvp)>p)", "(q>(pvq))", "((pvq)>(qvp))", "((pv(qvr))>(qv(pvr)))",
        "((q>r)>((pvq)>(pvr)))", "(~pvp)", "(p>~~p)", "((p>q)>(~q>~p))", "(p>(q>p))", "(~p>(p>q))", "((p>~p)>~p)"};

    private static final String[] PARTS = {"~(qvp)", "(~qvs)", "(~~pv~q)", "~~(qvr)", "(p>(pvr))", "(qv~~r)"};

    private String ofParts() {
        String a = PARTS[random.nextInt(PARTS.length)];
        String b = PARTS[random.nextInt(PARTS.length)];
        switch (random.nextInt(6)) {
            case 0: return a;
            case 1: return "(~" + a + "v" + b + ")";
            case 2: return "((" + a + ">" + b + ")>" + PARTS[random.nextInt(PARTS.length)] + ")";
            case 3: return random.nextInt(5) == 0 ? changed() : a;
            default: return "(" + a + ">" + b + ")";
        }
    }

    private String drawText() {
        boolean aimed = random.nextInt(3) > 0;
        for (int i = 0; i < 30 && aimed; i++) {
            String text = model.drawConsequence(random);
            if (text != null && text.length() < 40) {
                return text;
            }
        }
        if (mode == 1 || (mode == 2 && random.nextBoolean())) {
            return random.nextInt(9) == 0 ? spoiled(ofParts()) : ofParts();
        }
        switch (random.nextInt(8)) {
            case 0: return KNOWN_ONES[random.nextInt(KNOWN_ONES.length)];
            case 1: return spoiled(drawLine(4));
            case 2: return changed();
            case 3: return drawLine(5);
            default: return drawLine(3);
        }
    }

    /** A line put into another one, or two lines as steps would make them. */
    private String changed() {
        int n = model.count(0);
        if (n == 0) {
            return "p";
        }
        String a = textOf(random.nextInt(n));
        String b = textOf(random.nextInt(n));
        switch (random.nextInt(6)) {
            case 0: return "(" + a + ">" + b + ")";
            case 1: return a.replace("q", b);
            case 2: return a.replace("p", "(qvr)").replace("s", "~p");
            case 3: return a.replace(">", "v");
            case 4: return part(a);
            default: return part(a).isEmpty() ? a : "(" + part(a) + ">" + b + ")";
        }
    }

    private String part(String text) {
        int start = random.nextInt(text.length());
        for (int end = start + 1; end <= text.length(); end++) {
            if (Check.fault(text.substring(start, end)) == -4) {
                return text.substring(start, end);
            }
        }
        return text;
    }

    private String textOf(int line) {
        StringBuilder text = new StringBuilder();
        for (int i = 0; model.letter(line, i) >= 0; i++) {
            text.append((char) model.letter(line, i));
        }
        return text.toString();
    }

    private String spoiled(String text) {
        int i = random.nextInt(text.length());
        String signs = "pqrstuv>~()xo \u00e9";
        String sign = "" + signs.charAt(random.nextInt(signs.length()));
        switch (random.nextInt(5)) {
            case 0: return text.substring(0, i);
            case 1: return text.substring(0, i) + sign + text.substring(i);
            case 2: return text.substring(0, i) + sign + text.substring(i + 1);
            case 3: return text.substring(0, i) + Check.times("~", random.nextInt(14)) + text.substring(i);
            default: return text + text;
        }
    }

    private String drawProgram() {
        StringBuilder text = new StringBuilder();
        int n = random.nextInt(5);
        for (int i = 0; i < n; i++) {
            int kind = random.nextInt(14);
            char c = kind < 9 ? "mdcmdcmdc".charAt(kind) : "lkskl".charAt(kind - 9);
            text.append(c);
            if (c == 'k' || c == 's') {
                int[] most = {9, 99, 999, 30};
                text.append(random.nextInt(most[random.nextInt(4)]) + (random.nextInt(9) == 0 ? 0 : 1));
            }
            text.append(";");
        }
        if (random.nextInt(9) == 0 && text.length() > 0) {
            int i = random.nextInt(text.length());
            text.insert(i, "mdclks;019 ".charAt(random.nextInt(11)));
        }
        return text.toString();
    }

    /** Lays a text in both, without a look at each call's answer (the shelves have their own calls). */
    private void lay(int d, String told) {
        String text = told.length() > 120 ? told.substring(0, 120) : told;
        calls += 1 + text.length();
        x.row(d, 0, text.length());
        model.row(d, 0, text.length());
        for (int i = 0; i < text.length(); i++) {
            x.put(d, i, text.charAt(i));
            model.put(d, i, text.charAt(i));
        }
    }

    private void newLine(boolean given) {
        lay(0, drawText());
        due("fault(0)", x.fault(0), model.fault(0));
        int line = model.line(0);
        due("line(0)", x.line(0), line);
        if (given && line >= 0) {
            due("give(" + line + ")", x.give(line), model.give(line));
        }
    }

    private void newProgram() {
        lay(1, drawProgram());
        due("program(1)", x.program(1), model.program(1));
    }

    private void layRow() {
        int n = random.nextInt(5);
        calls += 1 + n;
        x.row(2, 0, n);
        model.row(2, 0, n);
        for (int i = 0; i < n; i++) {
            int v = soughtLine();
            x.put(2, i, v);
            model.put(2, i, v);
        }
    }

    private void act() {
        switch (random.nextInt(10)) {
            case 0: newLine(random.nextInt(3) == 0); break;
            case 1: if (random.nextInt(6) == 0) { newProgram(); } break;
            case 2: ofLines(); break;
            case 3: ofPuttings(); break;
            case 4: ofSteps(); break;
            case 5: ofRuns(); break;
            case 6: ofNeeds(); break;
            case 7: ofOrders(); break;
            case 8: ofImages(); break;
            default: ofShelves(); break;
        }
    }

    private void ofLines() {
        int line = anyLine();
        int what = odd(7);
        due("of(" + line + ", " + what + ")", x.of(line, what), model.of(line, what));
        int i = odd(40);
        due("letter(" + line + ", " + i + ")", x.letter(line, i), model.letter(line, i));
        due("table(" + line + ")", x.table(line), model.table(line));
        if (random.nextInt(6) == 0) {
            due("give(" + line + ")", x.give(line), model.give(line));
        }
    }

    private void ofPuttings() {
        int a = anyLine();
        int b = anyLine();
        int what = odd(3);
        due("pair(" + a + ", " + b + ", " + what + ")", x.pair(a, b, what), model.pair(a, b, what));
        int i = odd(60) - 1;
        due("widest(" + a + ", " + b + ", " + i + ")", x.widest(a, b, i), model.widest(a, b, i));
        due("widest(" + a + ", " + b + ", -1)", x.widest(a, b, -1), model.widest(a, b, -1));
        int letter = 'p' + odd(6);
        int j = odd(12);
        due("must(" + a + ", " + b + ", " + letter + ", " + j + ")", x.must(a, b, letter, j), model.must(a, b, letter, j));
    }

    private void ofSteps() {
        int line = anyLine();
        int kind = odd(4);
        int n = model.count(0);
        // most of the time a step that is so, if there is one
        int a = anyLine();
        int b = anyLine();
        for (int i = 0; i < 150 && n > 0 && model.check(line, kind, a, b) != 1; i++) {
            line = soughtLine();
            a = odd(n);
            b = odd(n);
        }
        String call = "(" + line + ", " + kind + ", " + a + ", " + b + ")";
        due("check" + call, x.check(line, kind, a, b), model.check(line, kind, a, b));
        if (random.nextInt(3) == 0) {
            due("step" + call, x.step(line, kind, a, b), model.step(line, kind, a, b));
        }
        int what = odd(3);
        due("from(" + line + ", " + what + ")", x.from(line, what), model.from(line, what));
        int other = anyLine();
        due("from(" + other + ", " + what + ")", x.from(other, what), model.from(other, what));
        if (n < 12 || random.nextInt(20) == 0) {
            due("height(" + other + ")", x.height(other), model.height(other));
        }
    }

    private void ofRuns() {
        int program = odd(model.count(3));
        int line = soughtLine();
        int what = odd(5);
        String call = "(" + program + ", " + line + ", " + what + ")";
        due("run" + call, x.run(program, line, what), model.run(program, line, what));
        due("run, acts" + call, x.run(program, line, 1), model.run(program, line, 1));
        due("run, needs" + call, x.run(program, line, 2), model.run(program, line, 2));
        if (random.nextInt(4) == 0) {
            due("show" + call, x.show(program, line), model.show(program, line));
        }
        int z = random.nextInt();
        int odds = random.nextBoolean() ? odd(101) : 20;
        int told = odd(4);
        due("slips" + call + z + ", " + odds + ", " + told, x.slips(program, line, z, odds, told), model.slips(program, line, z, odds, told));
    }

    private void ofNeeds() {
        int program = odd(model.count(3));
        int line = soughtLine();
        int i = odd(Math.max(1, model.run(program, line, 2)));
        int j = odd(14);
        String call = "(" + program + ", " + line + ", " + i + ", " + j + ")";
        due("need" + call, x.need(program, line, i, j), model.need(program, line, i, j));
        int depth = random.nextBoolean() ? odd(10) : odd(3);
        due("tree(" + line + ", " + depth + ")", x.tree(line, depth), model.tree(line, depth));
    }

    private void ofOrders() {
        layRow();
        int program = odd(model.count(3));
        int d = random.nextInt(8) == 0 ? odd(8) : 2;
        int what = odd(3);
        String call = "(" + program + ", " + d + ", " + what + ")";
        due("order" + call, x.order(program, d, what), model.order(program, d, what));
        due("bestOrder" + call, x.bestOrder(program, d, what), model.bestOrder(program, d, what));
        due("never()", x.never(), model.never());
    }

    private void ofImages() {
        int what = odd(6);
        due("count(" + what + ")", x.count(what), model.count(what));
        int draw = random.nextInt(12);
        if (draw == 0) {
            due("image()", x.image(), model.image());
        } else if (draw == 1) {
            due("restore()", x.restore(), model.restore());
        }
    }

    private void ofShelves() {
        int d = odd(8);
        int e = odd(8);
        int what = random.nextInt(3) == 0 ? odd(2) : 1;
        int k = odd(7);
        int line = anyLine();
        int n = random.nextInt(9) == 0 ? odd(121) : odd(8);
        int sort = odd(3);
        int i = odd(6);
        int j = odd(6);
        switch (random.nextInt(7)) {
            case 0: due("keep(" + d + ", " + what + ", " + k + ", " + line + ")", x.keep(d, what, k, line), model.keep(d, what, k, line)); break;
            case 1: due("row(" + d + ", " + sort + ", " + n + ")", x.row(d, sort, n), model.row(d, sort, n)); break;
            case 2:
                int v = random.nextInt();
                due("put(" + d + ", " + i + ", " + v + ")", x.put(d, i, v), model.put(d, i, v));
                break;
            case 3: due("element(" + d + ", " + i + ")", element(true, d, i), element(false, d, i)); break;
            case 4: due("copy(" + d + ", " + i + ", " + e + ", " + j + ", " + n + ")", x.copy(d, i, e, j, n), model.copy(d, i, e, j, n)); break;
            case 5: due("effort(" + d + ")", x.effort(d), model.effort(d)); break;
            default: due("toss(" + d + ")", x.toss(d), model.toss(d)); break;
        }
    }

    private long element(boolean ofClass, int d, int i) {
        try {
            return ofClass ? x.element(d, i) : model.element(d, i);
        } catch (IllegalArgumentException none) {
            return 1L << 40;
        } catch (IllegalStateException none) {
            return 1L << 41;
        }
    }
}

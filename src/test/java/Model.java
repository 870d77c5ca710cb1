import java.util.ArrayList;
import java.util.HashMap;
import java.util.HashSet;
import java.util.List;
import java.util.Map;
import java.util.Set;
import java.util.TreeMap;

/** The document once more, as plainly as it can be said: texts, trees, maps, recursion. ModelTest compares the class with it. */
final class Model {
    /** A line as a tree; its text says what it is. */
    static final class Node {
        final char sign;
        final Node left;
        final Node right;
        final String text;

        Node(char sign, Node left, Node right) {
            this.sign = sign;
            this.left = left;
            this.right = right;
            text = left == null ? "" + sign : right == null ? "~" + left.text : "(" + left.text + sign + right.text + ")";
        }

        int size() {
            return text.replace("(", "").replace(")", "").length();
        }

        int levels() {
            return left == null ? 1 : 1 + Math.max(left.levels(), right == null ? 0 : right.levels());
        }

        String letters() {
            return text.replaceAll("[^p-u]", "");
        }

        int unlike() {
            Set<Character> set = new HashSet<>();
            for (char c : letters().toCharArray()) {
                set.add(c);
            }
            return set.size();
        }

        boolean value(Map<Character, Boolean> ways) {
            switch (sign) {
                case '~': return !left.value(ways);
                case 'v': return left.value(ways) || right.value(ways);
                case '>': return !left.value(ways) || right.value(ways);
                default: return ways.get(sign);
            }
        }

        int table() {
            List<Character> letters = new ArrayList<>(new java.util.TreeSet<>(chars(letters())));
            int sum = 0;
            for (int way = 0; way < 1 << letters.size(); way++) {
                Map<Character, Boolean> ways = new HashMap<>();
                for (int i = 0; i < letters.size(); i++) {
                    ways.put(letters.get(i), (way >> i & 1) == 1);
                }
                sum += value(ways) ? 1 : 0;
            }
            return sum;
        }

        boolean isTrue() {
            return table() == 1 << unlike();
        }

        boolean is(Node other) {
            return text.equals(other.text);
        }

        boolean like(Node other) {
            return levels() == other.levels() && unlike() == other.unlike() && letters().length() == other.letters().length();
        }

        Node put(Map<Character, Node> putting) {
            if (left == null) {
                return putting.getOrDefault(sign, this);
            }
            return new Node(sign, left.put(putting), right == null ? null : right.put(putting));
        }

        boolean isIf() {
            return sign == '>';
        }
    }

    private static List<Character> chars(String text) {
        List<Character> all = new ArrayList<>();
        for (char c : text.toCharArray()) {
            all.add(c);
        }
        return all;
    }

    /** What a reader meets where no LINE or PROGRAM can go on. */
    private static final class Fault extends Exception {
        private static final long serialVersionUID = 1;
        final int place;

        Fault(int place) {
            super(null, null, false, false);
            this.place = place;
        }
    }

    private String text;
    private int at;

    private char next() throws Fault {
        if (at >= text.length() || at >= 60) {
            throw new Fault(at);
        }
        return text.charAt(at);
    }

    private Node readLine(int open) throws Fault {
        char c = next();
        if (c >= 'p' && c <= 'u') {
            at++;
            return new Node(c, null, null);
        }
        if (open == 12 || (c != '~' && c != '(')) {
            throw new Fault(at);
        }
        at++;
        Node left = readLine(open + 1);
        if (c == '~') {
            return new Node('~', left, null);
        }
        char sign = next();
        if (sign != 'v' && sign != '>') {
            throw new Fault(at);
        }
        at++;
        Node right = readLine(open + 1);
        if (next() != ')') {
            throw new Fault(at);
        }
        at++;
        return new Node(sign, left, right);
    }

    private Node readWhole(String told) throws Fault {
        text = told;
        at = 0;
        Node line = readLine(0);
        if (at < text.length()) {
            throw new Fault(at);
        }
        return line;
    }

    /** A program as told. */
    static final class Told {
        final List<Character> acts = new ArrayList<>();
        boolean like;
        int last = 1000;
        int stop = 60;
    }

    private Told readProgram(String told) throws Fault {
        Told program = new Told();
        int i = 0;
        do {
            if (i >= told.length() || "mdclks".indexOf(told.charAt(i)) < 0) {
                throw new Fault(i);
            }
            char c = told.charAt(i);
            i++;
            if (c == 'k' || c == 's') {
                int start = i;
                while (i < told.length() && i < start + 3 && Character.isDigit(told.charAt(i)) && (i > start || told.charAt(i) != '0')) {
                    i++;
                }
                if (i == start) {
                    throw new Fault(i);
                }
                int number = Integer.parseInt(told.substring(start, i));
                if (c == 'k') {
                    program.last = number;
                } else {
                    program.stop = Math.min(100, number);
                }
            } else if (c == 'l') {
                program.like = true;
            } else {
                program.acts.add(c);
            }
            if (i >= told.length() || told.charAt(i) != ';') {
                throw new Fault(i);
            }
            i++;
        } while (i < told.length());
        return program;
    }

    /** What a putting for a's letters makes b, or null. */
    private static Map<Character, Node> comes(Node b, Node a) {
        Map<Character, Node> putting = new TreeMap<>();
        return comes(b, a, putting) && a.put(putting).is(b) ? putting : null;
    }

    private static boolean comes(Node b, Node a, Map<Character, Node> putting) {
        if (a.left == null) {
            putting.putIfAbsent(a.sign, b);
            return true;
        }
        if (a.sign != b.sign) {
            return false;
        }
        return comes(b.left, a.left, putting) && (a.right == null || comes(b.right, a.right, putting));
    }

    private static Node widestOf(Node a, Node b) {
        Node one = a;
        Node other = b;
        while (!one.is(other)) {
            Node[] differ = firstUnlike(one, other);
            boolean ofOne = differ[0].left == null;
            Node letter = ofOne ? differ[0] : differ[1];
            Node part = ofOne ? differ[1] : differ[0];
            if (letter.left != null || part.text.indexOf(letter.sign) >= 0) {
                return null;
            }
            Map<Character, Node> putting = new HashMap<>();
            putting.put(letter.sign, part);
            one = one.put(putting);
            other = other.put(putting);
            if (one.size() > 200 || other.size() > 200) {
                return null;
            }
        }
        return one;
    }

    private static Node[] firstUnlike(Node a, Node b) {
        if (a.is(b)) {
            return null;
        }
        if (a.sign != b.sign || a.left == null) {
            return new Node[] {a, b};
        }
        Node[] differ = firstUnlike(a.left, b.left);
        return differ != null ? differ : firstUnlike(a.right, b.right);
    }

    /** All lines that one change of ( X > Y ) to ( ~ X v Y ), or back, makes of a line. */
    private static Set<String> changes(Node a) {
        Set<String> all = new HashSet<>();
        if (a.left == null) {
            return all;
        }
        if (a.sign == '>') {
            all.add("(~" + a.left.text + "v" + a.right.text + ")");
        }
        if (a.sign == 'v' && a.left.sign == '~') {
            all.add("(" + a.left.left.text + ">" + a.right.text + ")");
        }
        for (String left : changes(a.left)) {
            all.add(a.right == null ? "~" + left : "(" + left + a.sign + a.right.text + ")");
        }
        if (a.right != null) {
            for (String right : changes(a.right)) {
                all.add("(" + a.left.text + a.sign + right + ")");
            }
        }
        return all;
    }

    private static boolean holds(Node line, int kind, Node a, Node b) {
        switch (kind) {
            case 0: return comes(line, a) != null;
            case 1: return b.text.equals("(" + a.text + ">" + line.text + ")");
            case 2: return a.isIf() && b.isIf() && a.right.is(b.left) && line.text.equals("(" + a.left.text + ">" + b.right.text + ")");
            default: return changes(a).contains(line.text);
        }
    }

    /** What a run found. */
    static final class Found {
        final List<Node> needs = new ArrayList<>();
        final List<Integer> depths = new ArrayList<>();
        int acts;
        int depth = -4;
        int by = -4;
        int seen;
        int unseen;

        boolean shown() {
            return by >= 0;
        }

        void begin(Node line) {
            needs.add(line);
            depths.add(0);
        }

        void offer(Node need, int depth) {
            if (need.size() > 20 || needs.size() >= 24) {
                return;
            }
            for (Node old : needs) {
                if (old.is(need)) {
                    return;
                }
            }
            needs.add(need);
            depths.add(depth);
        }
    }

    private static Node implies(Node a, Node b) {
        return new Node('>', a, b);
    }

    private Found runOn(Told program, Node line, List<Integer> knownOnes, int z, int odds) {
        Found found = new Found();
        found.begin(line);
        int seed = z;
        List<Integer> tried = knownOnes.subList(Math.max(0, knownOnes.size() - program.last), knownOnes.size());
        for (int n = 0; n < found.needs.size(); n++) {
            Node need = found.needs.get(n);
            int depth = found.depths.get(n);
            for (char act : program.acts) {
                for (int number : tried) {
                    Node k = lines.get(number);
                    if (act == 'm') {
                        if (program.like && !need.like(k)) {
                            continue;
                        }
                        if (found.acts == program.stop) {
                            return found;
                        }
                        found.acts++;
                        seed = seed * 1103515245 + 12345;
                        boolean slip = ((seed & 0x7fffffff) >> 16) % 100 < odds;
                        boolean does = comes(need, k) != null;
                        if (does && !slip) {
                            found.depth = depth;
                            found.by = number;
                            return found;
                        }
                        found.unseen += does ? 1 : 0;
                        found.seen += !does && slip ? 1 : 0;
                    } else if (k.isIf() && act == 'd') {
                        if (program.like && !need.like(k.right)) {
                            continue;
                        }
                        if (found.acts == program.stop) {
                            return found;
                        }
                        found.acts++;
                        Map<Character, Node> putting = comes(need, k.right);
                        if (putting != null) {
                            found.offer(k.left.put(putting), depth + 1);
                        }
                    } else if (k.isIf() && need.isIf()) {
                        if (!program.like || need.left.like(k.left)) {
                            if (found.acts == program.stop) {
                                return found;
                            }
                            found.acts++;
                            Map<Character, Node> putting = comes(need.left, k.left);
                            if (putting != null) {
                                found.offer(implies(k.right.put(putting), need.right), depth + 1);
                            }
                        }
                        if (!program.like || need.right.like(k.right)) {
                            if (found.acts == program.stop) {
                                return found;
                            }
                            found.acts++;
                            Map<Character, Node> putting = comes(need.right, k.right);
                            if (putting != null) {
                                found.offer(implies(need.left, k.left.put(putting)), depth + 1);
                            }
                        }
                    }
                }
            }
        }
        return found;
    }

    /** The tree to a depth, by growing it a depth at a time. */
    private int treeOf(Node line, int deepest) {
        Found found = new Found();
        found.begin(line);
        int from = 0;
        for (int depth = 0; depth < deepest; depth++) {
            int to = found.needs.size();
            for (int n = from; n < to; n++) {
                Node need = found.needs.get(n);
                for (int number : known) {
                    Node k = lines.get(number);
                    if (k.isIf() && comes(need, k.right) != null) {
                        found.offer(k.left.put(comes(need, k.right)), depth + 1);
                    }
                }
                for (int number : known) {
                    Node k = lines.get(number);
                    if (k.isIf() && need.isIf() && comes(need.left, k.left) != null) {
                        found.offer(implies(k.right.put(comes(need.left, k.left)), need.right), depth + 1);
                    }
                    if (k.isIf() && need.isIf() && comes(need.right, k.right) != null) {
                        found.offer(implies(need.left, k.left.put(comes(need.right, k.right))), depth + 1);
                    }
                }
            }
            from = to;
        }
        return found.needs.size();
    }

    /** A line that a step, or a program's act, could make of two lines here; null if these two make none. */
    String drawConsequence(java.util.Random random) {
        if (known.isEmpty()) {
            return null;
        }
        Node a = lines.get(known.get(random.nextInt(known.size())));
        Node b = lines.get(random.nextInt(lines.size()));
        switch (random.nextInt(6)) {
            case 0: return b.isIf() && b.left.is(a) ? b.right.text : null;
            case 1: return a.isIf() && b.isIf() && a.right.is(b.left) ? implies(a.left, b.right).text : null;
            case 2:
                List<String> all = new ArrayList<>(changes(a));
                return all.isEmpty() ? null : all.get(random.nextInt(all.size()));
            case 3:
                Map<Character, Node> putting = new HashMap<>();
                putting.put("pqr".charAt(random.nextInt(3)), b.left == null ? b : b.left);
                return a.put(putting).text;
            case 4:
                Map<Character, Node> needed = b.isIf() ? comes(a, b.left) : null;
                return needed == null ? null : b.right.put(needed).text;
            default:
                Map<Character, Node> chained = a.isIf() && b.isIf() ? comes(a.right, b.left) : null;
                return chained == null ? null : implies(a.left, b.right.put(chained)).text;
        }
    }

    private List<Node> lines = new ArrayList<>();
    private List<Integer> states = new ArrayList<>();
    private List<int[]> sources = new ArrayList<>();
    private List<Integer> known = new ArrayList<>();
    private List<Told> programs = new ArrayList<>();
    private List<List<?>> picture = null;
    /** A shelf: null; { kind, line number, Node }; or { sort, elements }. */
    private final Object[][] shelves = new Object[8][];

    private boolean hasLine(int n) {
        return n >= 0 && n < lines.size();
    }

    private boolean isSought(int n) {
        return states.get(n) == 0;
    }

    private static boolean within(int n, int low, int high) {
        return n >= low && n <= high;
    }

    private static int byteOf(Node line, int i) {
        return i < line.text.length() ? line.text.charAt(i) : -4;
    }

    private static boolean isRow(Object[] shelf) {
        return shelf.length == 2;
    }

    private int bytesRefusal(int d) {
        if (shelves[d] == null) {
            return -11;
        }
        return isRow(shelves[d]) && (int) shelves[d][0] == 0 ? 0 : -12;
    }

    private String textOf(int d) {
        StringBuilder bytes = new StringBuilder();
        for (long element : (long[]) shelves[d][1]) {
            bytes.append((char) (element & 255));
        }
        return bytes.toString();
    }

    int fault(int d) {
        if (!within(d, 0, 7)) {
            return -1;
        }
        if (bytesRefusal(d) != 0) {
            return bytesRefusal(d);
        }
        try {
            readWhole(textOf(d));
            return -4;
        } catch (Fault fault) {
            return fault.place;
        }
    }

    int line(int d) {
        if (!within(d, 0, 7)) {
            return -1;
        }
        if (lines.size() == 40) {
            return -2;
        }
        if (bytesRefusal(d) != 0) {
            return bytesRefusal(d);
        }
        try {
            lines.add(readWhole(textOf(d)));
        } catch (Fault fault) {
            return -100 - fault.place;
        }
        states.add(0);
        sources.add(null);
        return lines.size() - 1;
    }

    int of(int line, int what) {
        if (!hasLine(line) || !within(what, 0, 6)) {
            return -1;
        }
        Node node = lines.get(line);
        int place = known.indexOf(line);
        int[] all = {node.size(), node.levels(), node.letters().length(), node.unlike(), node.isTrue() ? 1 : 0,
            states.get(line), place < 0 ? -4 : place};
        return all[what];
    }

    int letter(int line, int i) {
        return !hasLine(line) || i < 0 ? -1 : byteOf(lines.get(line), i);
    }

    int give(int line) {
        if (!hasLine(line)) {
            return -1;
        }
        if (!isSought(line)) {
            return 0;
        }
        states.set(line, 1);
        known.add(line);
        return 1;
    }

    int table(int line) {
        return hasLine(line) ? lines.get(line).table() : -1;
    }

    int pair(int a, int b, int what) {
        if (!hasLine(a) || !hasLine(b) || !within(what, 0, 2)) {
            return -1;
        }
        Node one = lines.get(a);
        Node other = lines.get(b);
        boolean so = what == 0 ? one.is(other) : what == 1 ? one.like(other) : comes(other, one) != null;
        return so ? 1 : 0;
    }

    int widest(int a, int b, int i) {
        if (!hasLine(a) || !hasLine(b) || i < -1) {
            return -1;
        }
        Node made = widestOf(lines.get(a), lines.get(b));
        return made == null ? -4 : i == -1 ? made.size() : byteOf(made, i);
    }

    int must(int a, int b, int letter, int i) {
        if (!hasLine(a) || !hasLine(b) || !within(letter, 'p', 'u') || i < 0) {
            return -1;
        }
        Map<Character, Node> putting = comes(lines.get(b), lines.get(a));
        Node part = putting == null ? null : putting.get((char) letter);
        return part == null ? -4 : byteOf(part, i);
    }

    int step(int line, int kind, int a, int b) {
        int so = check(line, kind, a, b);
        if (so < 0) {
            return so;
        }
        boolean two = kind == 1 || kind == 2;
        if (so == 0 || !isSought(line) || isSought(a) || (two && isSought(b))) {
            return -3;
        }
        becomeShown(line, new int[] {kind, a, two ? b : -4});
        return 1;
    }

    private void becomeShown(int line, int[] source) {
        states.set(line, 2);
        known.add(line);
        sources.set(line, source);
    }

    int check(int line, int kind, int a, int b) {
        boolean two = kind == 1 || kind == 2;
        if (!hasLine(line) || !within(kind, 0, 3) || !hasLine(a) || (two && !hasLine(b))) {
            return -1;
        }
        return holds(lines.get(line), kind, lines.get(a), two ? lines.get(b) : null) ? 1 : 0;
    }

    int from(int line, int what) {
        if (!hasLine(line) || !within(what, 0, 2)) {
            return -1;
        }
        return states.get(line) != 2 ? -3 : sources.get(line)[what];
    }

    int program(int d) {
        if (!within(d, 0, 7)) {
            return -1;
        }
        if (programs.size() == 6) {
            return -2;
        }
        if (bytesRefusal(d) != 0) {
            return bytesRefusal(d);
        }
        try {
            programs.add(readProgram(textOf(d)));
        } catch (Fault fault) {
            return -100 - fault.place;
        }
        return programs.size() - 1;
    }

    private int runRefusal(int program, int line) {
        if (!within(program, 0, programs.size() - 1) || !hasLine(line)) {
            return -1;
        }
        return isSought(line) ? 0 : -3;
    }

    private Found found(int program, int line, int z, int odds) {
        return runOn(programs.get(program), lines.get(line), known, z, odds);
    }

    int run(int program, int line, int what) {
        int refusal = within(what, 0, 4) ? runRefusal(program, line) : -1;
        if (refusal != 0) {
            return refusal;
        }
        Found found = found(program, line, 0, 0);
        int[] all = {found.shown() ? 1 : 0, found.acts, found.needs.size(), found.depth, found.by};
        return all[what];
    }

    int need(int program, int line, int i, int j) {
        int refusal = i >= 0 && j >= 0 ? runRefusal(program, line) : -1;
        if (refusal != 0) {
            return refusal;
        }
        Found found = found(program, line, 0, 0);
        return i < found.needs.size() ? byteOf(found.needs.get(i), j) : -4;
    }

    int show(int program, int line) {
        int refusal = runRefusal(program, line);
        if (refusal != 0) {
            return refusal;
        }
        Found found = found(program, line, 0, 0);
        if (!found.shown()) {
            return -4;
        }
        becomeShown(line, new int[] {4, found.by, -4});
        return found.acts;
    }

    int tree(int line, int depth) {
        return hasLine(line) && within(depth, 0, 9) ? treeOf(lines.get(line), depth) : -1;
    }

    /** Lowers heights from above all till no step lowers one more. */
    int height(int line) {
        if (!hasLine(line)) {
            return -1;
        }
        int far = 1000;
        int n = lines.size();
        int[] heights = new int[n];
        for (int i = 0; i < n; i++) {
            heights[i] = states.get(i) == 1 ? 0 : far;
        }
        boolean lower = true;
        while (lower) {
            lower = false;
            for (int i = 0; i < n; i++) {
                for (int a = 0; a < n; a++) {
                    for (int b = 0; b < n; b++) {
                        int high = Math.max(heights[a], heights[b]);
                        if (a == b && heights[a] + 1 < heights[i] && (holds(lines.get(i), 0, lines.get(a), null)
                            || holds(lines.get(i), 3, lines.get(a), null))) {
                            heights[i] = heights[a] + 1;
                            lower = true;
                        }
                        if (high + 1 < heights[i] && (holds(lines.get(i), 1, lines.get(a), lines.get(b))
                            || holds(lines.get(i), 2, lines.get(a), lines.get(b)))) {
                            heights[i] = high + 1;
                            lower = true;
                        }
                    }
                }
            }
        }
        return heights[line] == far ? -4 : heights[line];
    }

    long never() {
        long bits = 0;
        for (int i = 0; i < lines.size(); i++) {
            if (isSought(i) && !lines.get(i).isTrue()) {
                bits += 1L << i;
            }
        }
        return bits;
    }

    private List<Integer> problems(int d) {
        List<Integer> row = new ArrayList<>();
        for (long element : (long[]) shelves[d][1]) {
            if (!hasLine((int) element) || !isSought((int) element) || row.contains((int) element)) {
                return null;
            }
            row.add((int) element);
        }
        return within(row.size(), 1, 3) ? row : null;
    }

    private int orderRefusal(int program, int d, boolean isWhat) {
        if (!within(program, 0, programs.size() - 1) || !within(d, 0, 7) || !isWhat) {
            return -1;
        }
        if (bytesRefusal(d) != 0) {
            return bytesRefusal(d);
        }
        return problems(d) == null ? -13 : 0;
    }

    private int[] orderOf(int program, List<Integer> row) {
        List<Integer> inMind = new ArrayList<>(known);
        int shown = 0;
        int acts = 0;
        for (int line : row) {
            Found found = runOn(programs.get(program), lines.get(line), inMind, 0, 0);
            acts += found.acts;
            if (found.shown()) {
                shown++;
                inMind.add(line);
            }
        }
        return new int[] {shown, acts};
    }

    int order(int program, int d, int what) {
        int refusal = orderRefusal(program, d, within(what, 0, 1));
        return refusal != 0 ? refusal : orderOf(program, problems(d))[what];
    }

    private static void orders(List<Integer> begun, int n, List<List<Integer>> all) {
        if (begun.size() == n) {
            all.add(new ArrayList<>(begun));
            return;
        }
        for (int i = 0; i < n; i++) {
            if (!begun.contains(i)) {
                begun.add(i);
                orders(begun, n, all);
                begun.remove(begun.size() - 1);
            }
        }
    }

    int bestOrder(int program, int d, int what) {
        int refusal = orderRefusal(program, d, within(what, 0, 2));
        if (refusal != 0) {
            return refusal;
        }
        List<Integer> row = problems(d);
        List<List<Integer>> all = new ArrayList<>();
        orders(new ArrayList<>(), row.size(), all);
        int[] best = {-1, 0, 0};
        for (List<Integer> order : all) {
            List<Integer> turned = new ArrayList<>();
            int digits = 0;
            for (int i = 0; i < order.size(); i++) {
                turned.add(row.get(order.get(i)));
                digits += order.get(i) << 3 * i;
            }
            int[] got = orderOf(program, turned);
            if (got[0] > best[0] || (got[0] == best[0] && got[1] < best[1])) {
                best = new int[] {got[0], got[1], digits};
            }
        }
        return best[what];
    }

    int slips(int program, int line, int z, int odds, int what) {
        int refusal = within(odds, 0, 100) && within(what, 0, 3) ? runRefusal(program, line) : -1;
        if (refusal != 0) {
            return refusal;
        }
        Found found = found(program, line, z, odds);
        int[] all = {found.shown() ? 1 : 0, found.acts, found.seen, found.unseen};
        return all[what];
    }

    int image() {
        picture = List.of(new ArrayList<>(lines), new ArrayList<>(states), new ArrayList<>(sources), new ArrayList<>(known),
            new ArrayList<>(programs));
        return lines.size();
    }

    @SuppressWarnings("unchecked")
    int restore() {
        if (picture == null) {
            return -3;
        }
        lines = new ArrayList<>((List<Node>) picture.get(0));
        states = new ArrayList<>((List<Integer>) picture.get(1));
        sources = new ArrayList<>((List<int[]>) picture.get(2));
        known = new ArrayList<>((List<Integer>) picture.get(3));
        programs = new ArrayList<>((List<Told>) picture.get(4));
        return lines.size();
    }

    int count(int what) {
        int sizes = 0;
        int trues = 0;
        int[] how = new int[3];
        for (int i = 0; i < lines.size(); i++) {
            sizes += lines.get(i).size();
            trues += lines.get(i).isTrue() ? 1 : 0;
            how[states.get(i)]++;
        }
        int[] all = {lines.size(), how[1], how[2], programs.size(), sizes, trues};
        return within(what, 0, 5) ? all[what] : -1;
    }

    int keep(int d, int what, int k, int line) {
        if (!within(d, 0, 7) || !within(what, 0, 1) || (what == 1 && (!within(k, 0, 6) || !hasLine(line)))) {
            return -1;
        }
        shelves[d] = what == 0 ? null : new Object[] {k, line, lines.get(line)};
        return 0;
    }

    int row(int d, int sort, int n) {
        if (!within(d, 0, 7) || !within(sort, 0, 2) || n > 120) {
            return -1;
        }
        if (n < 0) {
            return -14;
        }
        shelves[d] = new Object[] {sort, new long[n]};
        return 0;
    }

    int put(int d, int i, int v) {
        if (!within(d, 0, 7)) {
            return -1;
        }
        if (shelves[d] == null) {
            return -11;
        }
        if (!isRow(shelves[d])) {
            return -12;
        }
        long[] elements = (long[]) shelves[d][1];
        if (!within(i, 0, elements.length - 1)) {
            return -13;
        }
        int bits = 32 - (8 << (int) shelves[d][0]);
        elements[i] = v << bits >> bits;
        return 0;
    }

    long element(int d, int i) {
        if (!within(d, 0, 7)) {
            throw new IllegalArgumentException();
        }
        if (shelves[d] == null || !isRow(shelves[d]) || !within(i, 0, ((long[]) shelves[d][1]).length - 1)) {
            throw new IllegalStateException();
        }
        return ((long[]) shelves[d][1])[i];
    }

    int copy(int d, int i, int e, int j, int n) {
        if (!within(d, 0, 7) || !within(e, 0, 7)) {
            return -1;
        }
        if (shelves[d] == null || shelves[e] == null) {
            return -11;
        }
        if (!isRow(shelves[d]) || !isRow(shelves[e]) || !shelves[d][0].equals(shelves[e][0])) {
            return -12;
        }
        long[] source = ((long[]) shelves[d][1]).clone();
        long[] target = (long[]) shelves[e][1];
        if (n < 0 || i < 0 || j < 0 || (long) i + n > source.length || (long) j + n > target.length) {
            return -13;
        }
        for (int m = 0; m < n; m++) {
            target[j + m] = source[i + m];
        }
        return n;
    }

    int effort(int d) {
        if (!within(d, 0, 7)) {
            return -1;
        }
        if (shelves[d] == null) {
            return -11;
        }
        if (isRow(shelves[d])) {
            return -12;
        }
        Node line = (Node) shelves[d][2];
        int card = line.size();
        int match = card + line.letters().length();
        int[] all = {card, match, 2 * card, 2 * card + line.levels(), card + line.unlike(), card - 1, 2 * match};
        return all[(int) shelves[d][0]];
    }

    int toss(int d) {
        int refusal = effort(d);
        if (refusal < 0) {
            return refusal;
        }
        int kind = (int) shelves[d][0];
        Node line = (Node) shelves[d][2];
        if (kind == 5 || line.left == null) {
            return -15;
        }
        int number = (int) shelves[d][1];
        return kind == 3 ? 100 + number : kind == 6 ? 200 + line.levels() : number;
    }
}

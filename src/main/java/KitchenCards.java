import java.util.Arrays;

/** Cards on a kitchen table: lines, steps, programs that work backward, cards on shelves. */
public final class KitchenCards {

    private static final int WRONG = -1;
    private static final int NO_ROOM = -2;
    private static final int CANNOT = -3;
    private static final int NONE = -4;
    private static final int EMPTY = -11;
    private static final int OTHER_KIND = -12;
    private static final int NO_PLACE = -13;
    private static final int BELOW_ZERO = -14;
    private static final int NO_FAILURE = -15;
    private static final int FAULTY = -100;

    private static final int MOST_LINES = 40;
    private static final int MOST_BYTES = 60;
    private static final int MOST_OPEN = 12;
    private static final int LETTERS = 6;
    private static final int WIDEST_SIZE = 200;
    private static final int MOST_PROGRAMS = 6;
    private static final int MOST_NEEDS = 24;
    private static final int NEED_SIZE = 20;
    private static final int MOST_ACTS = 100;
    private static final int USUAL_ACTS = 60;
    private static final int MOST_PROBLEMS = 3;
    private static final int DEEPEST_TREE = 9;
    private static final int MOST_ODDS = 100;
    private static final int SHELVES = 8;
    private static final int MOST_ELEMENTS = 120;
    private static final int UNBOUNDED = 1000000;
    private static final int WITHOUT_SIGN = 0x7fffffff;

    private static final int SOUGHT = 0;
    private static final int GIVEN = 1;
    private static final int SHOWN = 2;

    private static final int STEP_PUT = 0;
    private static final int STEP_THEN = 1;
    private static final int STEP_CHAIN = 2;
    private static final int STEP_MEANING = 3;
    private static final int STEP_RUN = 4;

    private static final int KIND_CARD = 0;
    private static final int KIND_MATCH = 1;
    private static final int KIND_BACK = 2;
    private static final int KIND_CHAIN = 3;
    private static final int KIND_LIKE = 4;
    private static final int KIND_KEPT = 5;
    private static final int KIND_CHILD = 6;

    private static final int SORT_BYTES = 0;
    private static final int SORT_SHORTS = 1;
    private static final int SORT_INTS = 2;

    /** Of each LETTER the bits of those of the 64 ways in which it is true. */
    private static final long[] LETTER_WAYS = {
        0xAAAAAAAAAAAAAAAAL, 0xCCCCCCCCCCCCCCCCL, 0xF0F0F0F0F0F0F0F0L,
        0xFF00FF00FF00FF00L, 0xFFFF0000FFFF0000L, 0xFFFFFFFF00000000L
    };

    private final Table table = new Table();
    private final Table picture = new Table();
    private boolean pictured = false;
    private final Shelf[] shelves = new Shelf[SHELVES];
    private final LineReader reader = new LineReader();
    private final Writer writer = new Writer();
    private final Putting putting = new Putting();
    private final Widest both = new Widest();
    private final Steps steps = new Steps();
    private final Search search = new Search();
    private final Program treeProgram = new Program(2);
    private final int[] places = new int[MOST_PROBLEMS];
    private int orderShown = 0;
    private int orderActs = 0;

    public KitchenCards() {
        for (int d = 0; d < SHELVES; d++) {
            shelves[d] = new Shelf();
        }
        treeProgram.addAct('d');
        treeProgram.addAct('c');
        treeProgram.stop = UNBOUNDED;
    }

    // ---- lines

    public int fault(int d) {
        Shelf shelf = shelfAt(d);
        if (shelf == null) {
            return WRONG;
        }
        int refusal = shelf.bytesRefusal();
        return refusal != 0 ? refusal : reader.readText(shelf.elements, shelf.size);
    }

    public int line(int d) {
        Shelf shelf = shelfAt(d);
        if (shelf == null) {
            return WRONG;
        }
        if (table.lineCount >= MOST_LINES) {
            return NO_ROOM;
        }
        int refusal = shelf.bytesRefusal();
        if (refusal != 0) {
            return refusal;
        }
        int place = reader.readText(shelf.elements, shelf.size);
        return place >= 0 ? FAULTY - place : table.addLine(reader.madeLine());
    }

    public int of(int line, int what) {
        Line told = table.lineAt(line);
        if (told == null) {
            return WRONG;
        }
        switch (what) {
            case 0: return told.size;
            case 1: return told.levelAt(0);
            case 2: return told.placesAt(0);
            case 3: return told.unlikeAt(0);
            case 4: return told.isTrue() ? 1 : 0;
            case 5: return table.howIs(line);
            case 6: return table.placeOf(line);
            default: return WRONG;
        }
    }

    public int letter(int line, int i) {
        Line told = table.lineAt(line);
        if (told == null || i < 0) {
            return WRONG;
        }
        return writer.byteOf(told, 0, i);
    }

    public int give(int line) {
        if (table.lineAt(line) == null) {
            return WRONG;
        }
        if (table.howIs(line) != SOUGHT) {
            return 0;
        }
        table.makeKnown(line, GIVEN);
        return 1;
    }

    public int table(int line) {
        Line told = table.lineAt(line);
        return told == null ? WRONG : told.ways;
    }

    public int pair(int a, int b, int what) {
        Line one = table.lineAt(a);
        Line other = table.lineAt(b);
        if (one == null || other == null) {
            return WRONG;
        }
        switch (what) {
            case 0: return one.samePart(0, other, 0) ? 1 : 0;
            case 1: return one.isLike(0, other, 0) ? 1 : 0;
            case 2: return putting.makes(one, 0, other, 0) ? 1 : 0;
            default: return WRONG;
        }
    }

    // ---- puttings, steps

    public int widest(int a, int b, int i) {
        Line one = table.lineAt(a);
        Line other = table.lineAt(b);
        if (one == null || other == null || i < -1) {
            return WRONG;
        }
        if (!both.makeAlike(one, other)) {
            return NONE;
        }
        return i < 0 ? both.left.size : writer.byteOf(both.left, 0, i);
    }

    public int must(int a, int b, int letter, int i) {
        Line one = table.lineAt(a);
        Line other = table.lineAt(b);
        int told = letterOf(letter);
        if (one == null || other == null || told < 0 || i < 0) {
            return WRONG;
        }
        if (!putting.makes(one, 0, other, 0)) {
            return NONE;
        }
        int start = putting.startOf(told);
        return start < 0 ? NONE : writer.byteOf(other, start, i);
    }

    public int step(int line, int kind, int a, int b) {
        if (!isStepTold(line, kind, a, b)) {
            return WRONG;
        }
        boolean two = takesTwo(kind);
        if (table.howIs(line) != SOUGHT || table.howIs(a) == SOUGHT || (two && table.howIs(b) == SOUGHT)) {
            return CANNOT;
        }
        if (!steps.allow(table.lineAt(line), kind, table.lineAt(a), table.lineAt(b))) {
            return CANNOT;
        }
        table.makeKnown(line, SHOWN);
        table.noteSource(line, kind, a, two ? b : NONE);
        return 1;
    }

    public int check(int line, int kind, int a, int b) {
        if (!isStepTold(line, kind, a, b)) {
            return WRONG;
        }
        return steps.allow(table.lineAt(line), kind, table.lineAt(a), table.lineAt(b)) ? 1 : 0;
    }

    public int from(int line, int what) {
        if (table.lineAt(line) == null || what < 0 || what > 2) {
            return WRONG;
        }
        return table.howIs(line) == SHOWN ? table.sourceOf(line, what) : CANNOT;
    }

    // ---- programs, runs

    public int program(int d) {
        Shelf shelf = shelfAt(d);
        if (shelf == null) {
            return WRONG;
        }
        if (table.programCount >= MOST_PROGRAMS) {
            return NO_ROOM;
        }
        int refusal = shelf.bytesRefusal();
        if (refusal != 0) {
            return refusal;
        }
        Program told = new Program(shelf.size);
        int place = told.readText(shelf.elements, shelf.size);
        return place >= 0 ? FAULTY - place : table.addProgram(told);
    }

    public int run(int program, int line, int what) {
        if (what < 0 || what > 4) {
            return WRONG;
        }
        int refusal = runRefusal(program, line);
        if (refusal != 0) {
            return refusal;
        }
        lookFor(program, line, 0, 0);
        switch (what) {
            case 0: return search.shown ? 1 : 0;
            case 1: return search.acts;
            case 2: return search.needCount;
            case 3: return search.shown ? search.shownDepth : NONE;
            default: return search.shown ? search.shownBy : NONE;
        }
    }

    public int need(int program, int line, int i, int j) {
        if (i < 0 || j < 0) {
            return WRONG;
        }
        int refusal = runRefusal(program, line);
        if (refusal != 0) {
            return refusal;
        }
        lookFor(program, line, 0, 0);
        Line wanted = search.needAt(i);
        return wanted == null ? NONE : writer.byteOf(wanted, 0, j);
    }

    public int show(int program, int line) {
        int refusal = runRefusal(program, line);
        if (refusal != 0) {
            return refusal;
        }
        lookFor(program, line, 0, 0);
        if (!search.shown) {
            return NONE;
        }
        table.makeKnown(line, SHOWN);
        table.noteSource(line, STEP_RUN, search.shownBy, NONE);
        return search.acts;
    }

    public int tree(int line, int depth) {
        Line told = table.lineAt(line);
        if (told == null || depth < 0 || depth > DEEPEST_TREE) {
            return WRONG;
        }
        search.learnAll(table);
        search.look(treeProgram, told, depth);
        return search.needCount;
    }

    // ---- heights, orders, slips

    public int height(int line) {
        return table.lineAt(line) == null ? WRONG : steps.heightOf(table, line);
    }

    public long never() {
        long bits = 0;
        for (int n = 0; n < table.lineCount; n++) {
            Line told = table.lineAt(n);
            if (told != null && table.howIs(n) == SOUGHT && !told.isTrue()) {
                bits |= 1L << n;
            }
        }
        return bits;
    }

    public int order(int program, int d, int what) {
        Program told = table.programAt(program);
        Shelf shelf = shelfAt(d);
        if (told == null || shelf == null || what < 0 || what > 1) {
            return WRONG;
        }
        int refusal = problemsRefusal(shelf);
        if (refusal != 0) {
            return refusal;
        }
        for (int i = 0; i < MOST_PROBLEMS; i++) {
            places[i] = i;
        }
        tryOrder(told, shelf);
        return what == 0 ? orderShown : orderActs;
    }

    public int bestOrder(int program, int d, int what) {
        Program told = table.programAt(program);
        Shelf shelf = shelfAt(d);
        if (told == null || shelf == null || what < 0 || what > 2) {
            return WRONG;
        }
        int refusal = problemsRefusal(shelf);
        if (refusal != 0) {
            return refusal;
        }
        int mostShown = -1;
        int fewestActs = 0;
        int bestPlaces = 0;
        for (int turn = 0; turn < MOST_PROBLEMS * MOST_PROBLEMS * MOST_PROBLEMS; turn++) {
            if (!layPlaces(turn, shelf.size)) {
                continue;
            }
            tryOrder(told, shelf);
            if (orderShown > mostShown || (orderShown == mostShown && orderActs < fewestActs)) {
                mostShown = orderShown;
                fewestActs = orderActs;
                bestPlaces = placesAsDigits(shelf.size);
            }
        }
        return what == 0 ? mostShown : what == 1 ? fewestActs : bestPlaces;
    }

    public int slips(int program, int line, int z, int odds, int what) {
        if (odds < 0 || odds > MOST_ODDS || what < 0 || what > 3) {
            return WRONG;
        }
        int refusal = runRefusal(program, line);
        if (refusal != 0) {
            return refusal;
        }
        lookFor(program, line, z, odds);
        switch (what) {
            case 0: return search.shown ? 1 : 0;
            case 1: return search.acts;
            case 2: return search.seenSlips;
            default: return search.unseenSlips;
        }
    }

    // ---- the image, what is told

    public int image() {
        picture.copyOf(table);
        pictured = true;
        return table.lineCount;
    }

    public int restore() {
        if (!pictured) {
            return CANNOT;
        }
        table.copyOf(picture);
        return table.lineCount;
    }

    public int count(int what) {
        switch (what) {
            case 0: return table.lineCount;
            case 1: return table.countOf(GIVEN);
            case 2: return table.countOf(SHOWN);
            case 3: return table.programCount;
            case 4: return table.allSizes();
            case 5: return table.trueLines();
            default: return WRONG;
        }
    }

    // ---- shelves

    public int keep(int d, int what, int k, int line) {
        Shelf shelf = shelfAt(d);
        if (shelf == null || what < 0 || what > 1) {
            return WRONG;
        }
        if (what == 0) {
            shelf.holdNothing();
            return 0;
        }
        Line told = table.lineAt(line);
        if (told == null || k < KIND_CARD || k > KIND_CHILD) {
            return WRONG;
        }
        shelf.holdCard(new Card(k, line, told));
        return 0;
    }

    public int row(int d, int sort, int n) {
        Shelf shelf = shelfAt(d);
        if (shelf == null || sort < SORT_BYTES || sort > SORT_INTS || n > MOST_ELEMENTS) {
            return WRONG;
        }
        if (n < 0) {
            return BELOW_ZERO;
        }
        shelf.holdRow(sort, n);
        return 0;
    }

    public int put(int d, int i, int v) {
        Shelf shelf = shelfAt(d);
        if (shelf == null) {
            return WRONG;
        }
        int refusal = shelf.rowRefusal();
        if (refusal != 0) {
            return refusal;
        }
        return shelf.setElement(i, v) ? 0 : NO_PLACE;
    }

    public long element(int d, int i) throws IllegalArgumentException, IllegalStateException {
        Shelf shelf = shelfAt(d);
        if (shelf == null) {
            throw new IllegalArgumentException("no such shelf");
        }
        if (shelf.rowRefusal() != 0 || !shelf.hasPlace(i)) {
            throw new IllegalStateException("no row or no such place");
        }
        return shelf.elementAt(i);
    }

    public int copy(int d, int i, int e, int j, int n) {
        Shelf source = shelfAt(d);
        Shelf target = shelfAt(e);
        if (source == null || target == null) {
            return WRONG;
        }
        if (source.isEmpty() || target.isEmpty()) {
            return EMPTY;
        }
        if (source.rowRefusal() != 0 || target.rowRefusal() != 0 || source.sort != target.sort) {
            return OTHER_KIND;
        }
        if (!source.hasPlaces(i, n) || !target.hasPlaces(j, n)) {
            return NO_PLACE;
        }
        System.arraycopy(source.elements, i, target.elements, j, n);
        return n;
    }

    public int effort(int d) {
        Shelf shelf = shelfAt(d);
        if (shelf == null) {
            return WRONG;
        }
        Card card = shelf.card;
        return card == null ? shelf.cardRefusal() : card.work();
    }

    public int toss(int d) {
        Shelf shelf = shelfAt(d);
        if (shelf == null) {
            return WRONG;
        }
        Card card = shelf.card;
        if (card == null) {
            return shelf.cardRefusal();
        }
        try {
            card.fail();
        } catch (IllegalStateException failure) {
            return card.failureNumber();
        }
        return NO_FAILURE;
    }

    // ---- what several calls need

    private static int letterOf(int sign) {
        return sign >= 'p' && sign <= 'u' ? sign - 'p' : -1;
    }

    private static boolean takesTwo(int kind) {
        return kind == STEP_THEN || kind == STEP_CHAIN;
    }

    private Shelf shelfAt(int d) {
        return d >= 0 && d < SHELVES ? shelves[d] : null;
    }

    private boolean isStepTold(int line, int kind, int a, int b) {
        if (kind < STEP_PUT || kind > STEP_MEANING || table.lineAt(line) == null || table.lineAt(a) == null) {
            return false;
        }
        return !takesTwo(kind) || table.lineAt(b) != null;
    }

    private int runRefusal(int program, int line) {
        if (table.programAt(program) == null || table.lineAt(line) == null) {
            return WRONG;
        }
        return table.howIs(line) == SOUGHT ? 0 : CANNOT;
    }

    private void lookFor(int program, int line, int z, int odds) {
        search.learnAll(table);
        search.setSlips(z, odds);
        search.look(table.programAt(program), table.lineAt(line), UNBOUNDED);
    }

    private int problemsRefusal(Shelf shelf) {
        int refusal = shelf.bytesRefusal();
        if (refusal != 0) {
            return refusal;
        }
        if (shelf.size < 1 || shelf.size > MOST_PROBLEMS) {
            return NO_PLACE;
        }
        for (int i = 0; i < shelf.size; i++) {
            int number = shelf.elementAt(i);
            if (table.lineAt(number) == null || table.howIs(number) != SOUGHT) {
                return NO_PLACE;
            }
            for (int j = 0; j < i; j++) {
                if (shelf.elementAt(j) == number) {
                    return NO_PLACE;
                }
            }
        }
        return 0;
    }

    /** Runs the ROW's lines in the order of the places that are laid. */
    private void tryOrder(Program program, Shelf shelf) {
        orderShown = 0;
        orderActs = 0;
        search.learnAll(table);
        search.setSlips(0, 0);
        for (int i = 0; i < shelf.size && i < MOST_PROBLEMS; i++) {
            int number = shelf.elementAt(places[i]);
            Line told = table.lineAt(number);
            search.look(program, told, UNBOUNDED);
            orderActs += search.acts;
            if (search.shown) {
                orderShown++;
                search.learn(number, told);
            }
        }
    }

    /** Lays the places that a turn's digits to the base 3 tell, the first one the highest; false if they are no order. */
    private boolean layPlaces(int turn, int n) {
        int rest = turn;
        for (int i = MOST_PROBLEMS - 1; i >= 0; i--) {
            places[i] = rest % MOST_PROBLEMS;
            rest /= MOST_PROBLEMS;
        }
        for (int i = 0; i < MOST_PROBLEMS; i++) {
            for (int j = 0; j < i; j++) {
                if (places[i] == places[j]) {
                    return false;
                }
            }
            // places behind the ROW's end stay where they are, so that each order comes once
            if (i < n ? places[i] >= n : places[i] != i) {
                return false;
            }
        }
        return true;
    }

    private int placesAsDigits(int n) {
        int digits = 0;
        for (int i = Math.min(n, MOST_PROBLEMS) - 1; i >= 0; i--) {
            digits = digits * 8 + places[i];
        }
        return digits;
    }

    /**
     * A line as signs without parentheses, each ~, v, > ahead of its parts:
     * ( p > q ) is > p q, so that SIZE is the number of signs and a part is a stretch of them.
     */
    private static final class Line {
        private final byte[] signs;
        private final int[] ends;
        private final int[] levels;
        private final int[] places;
        private final int[] letters;
        private int size = 0;
        private boolean spilled = false;
        private int ways = 0;

        Line(int room) {
            int length = Math.max(room, 0);
            signs = new byte[length];
            ends = new int[length];
            levels = new int[length];
            places = new int[length];
            letters = new int[length];
        }

        void clear() {
            size = 0;
            spilled = false;
        }

        /** A sign that finds no room is lost, and the line says so: it is too big for what it is made for. */
        void add(int sign) {
            if (size >= signs.length) {
                spilled = true;
                return;
            }
            signs[size] = (byte) sign;
            size++;
        }

        void addPart(Line other, int start) {
            int end = other.endAt(start);
            for (int i = start; i < end && !spilled; i++) {
                add(other.at(i));
            }
        }

        void setSign(int i, int sign) {
            if (i >= 0 && i < size && i < signs.length) {
                signs[i] = (byte) sign;
            }
        }

        void become(Line other, int start) {
            clear();
            addPart(other, start);
            settle();
        }

        int at(int i) {
            return i >= 0 && i < size && i < signs.length ? signs[i] : 0;
        }

        /** The place behind the part that begins at i. */
        int endAt(int i) {
            return i >= 0 && i < size && i < ends.length ? ends[i] : size;
        }

        int levelAt(int i) {
            return i >= 0 && i < size && i < levels.length ? levels[i] : 0;
        }

        /** How many places of letters the part that begins at i has. */
        int placesAt(int i) {
            return i >= 0 && i < size && i < places.length ? places[i] : 0;
        }

        int unlikeAt(int i) {
            return i >= 0 && i < size && i < letters.length ? Integer.bitCount(letters[i]) : 0;
        }

        private int lettersAt(int i) {
            return i >= 0 && i < size && i < letters.length ? letters[i] : 0;
        }

        /** Finds what is asked of each part; from the right, as parts stand behind their sign. */
        void settle() {
            for (int i = Math.min(size, signs.length) - 1; i >= 0; i--) {
                int first = i + 1;
                int letter = letterOf(signs[i]);
                if (letter >= 0) {
                    settlePart(i, first, 1, 1, 1 << letter);
                } else if (signs[i] == '~') {
                    settlePart(i, endAt(first), 1 + levelAt(first), placesAt(first), lettersAt(first));
                } else {
                    int second = endAt(first);
                    int level = 1 + Math.max(levelAt(first), levelAt(second));
                    int sum = placesAt(first) + placesAt(second);
                    settlePart(i, endAt(second), level, sum, lettersAt(first) | lettersAt(second));
                }
            }
        }

        private void settlePart(int i, int end, int level, int letterPlaces, int letterBits) {
            ends[i] = end;
            levels[i] = level;
            places[i] = letterPlaces;
            letters[i] = letterBits;
        }

        boolean isIf() {
            return at(0) == '>';
        }

        /** Where Y of ( X > Y ) begins; X begins at 1. */
        int second() {
            return endAt(1);
        }

        boolean samePart(int i, Line other, int j) {
            int length = endAt(i) - i;
            if (other.endAt(j) - j != length) {
                return false;
            }
            for (int k = 0; k < length; k++) {
                if (at(i + k) != other.at(j + k)) {
                    return false;
                }
            }
            return true;
        }

        boolean has(int sign) {
            for (int i = 0; i < size; i++) {
                if (at(i) == sign) {
                    return true;
                }
            }
            return false;
        }

        boolean isLike(int i, Line other, int j) {
            return levelAt(i) == other.levelAt(j)
                && placesAt(i) == other.placesAt(j)
                && unlikeAt(i) == other.unlikeAt(j);
        }

        /** Counts the ways in which the line is true; room has a place for the ways of each part. */
        void weigh(long[] room) {
            for (int i = Math.min(size, room.length) - 1; i >= 0; i--) {
                int letter = letterOf(at(i));
                long first = i + 1 < room.length ? room[i + 1] : 0;
                int other = endAt(i + 1);
                long second = other >= 0 && other < room.length ? room[other] : 0;
                if (letter >= 0 && letter < LETTER_WAYS.length) {
                    room[i] = LETTER_WAYS[letter];
                } else if (at(i) == '~') {
                    room[i] = ~first;
                } else {
                    room[i] = (at(i) == '>' ? ~first : first) | second;
                }
            }
            // the letters that aren't there double the ways, each of them
            int copies = LETTERS - unlikeAt(0);
            ways = room.length > 0 ? Long.bitCount(room[0]) >> copies : 0;
        }

        boolean isTrue() {
            return ways == 1 << unlikeAt(0);
        }
    }

    /** Reads a line's text byte by byte, with the ( and ~ that are open. */
    private static final class LineReader {
        private static final int OPEN_NOT = -1;
        private static final int OPEN_END = -2;

        private final Line draft = new Line(MOST_BYTES);
        /** Of each open one: OPEN_NOT of ~; of ( the place of its sign, then OPEN_END once that is read. */
        private final int[] opened = new int[MOST_OPEN];
        private final long[] room = new long[MOST_BYTES];
        private int depth = 0;
        private boolean awaitsLine = true;

        /** The place of the FAULT, or NONE. */
        int readText(int[] text, int n) {
            draft.clear();
            depth = 0;
            awaitsLine = true;
            for (int i = 0; i < n && i < text.length; i++) {
                if (i >= MOST_BYTES || !accepts(text[i])) {
                    return i;
                }
            }
            return !awaitsLine && depth == 0 ? NONE : n;
        }

        Line madeLine() {
            Line made = new Line(draft.size);
            draft.settle();
            made.become(draft, 0);
            made.weigh(room);
            return made;
        }

        private boolean accepts(int sign) {
            return awaitsLine ? begins(sign) : goesOn(sign);
        }

        private boolean begins(int sign) {
            if (letterOf(sign) >= 0) {
                draft.add(sign);
                endPart();
                return true;
            }
            if ((sign != '~' && sign != '(') || depth >= opened.length) {
                return false;
            }
            opened[depth] = sign == '~' ? OPEN_NOT : draft.size;
            depth++;
            // a ( stands where v or > comes once it is read
            draft.add(sign);
            return true;
        }

        private boolean goesOn(int sign) {
            int top = depth - 1;
            if (top < 0 || top >= opened.length) {
                return false;
            }
            if (opened[top] == OPEN_END) {
                if (sign != ')') {
                    return false;
                }
                depth--;
                endPart();
                return true;
            }
            if (sign != 'v' && sign != '>') {
                return false;
            }
            draft.setSign(opened[top], sign);
            opened[top] = OPEN_END;
            awaitsLine = true;
            return true;
        }

        private void endPart() {
            awaitsLine = false;
            while (depth > 0 && depth <= opened.length && opened[depth - 1] == OPEN_NOT) {
                depth--;
            }
        }
    }

    /** Writes a part of a line as text, with its parentheses. */
    private static final class Writer {
        /** A text has fewer than two bytes a sign: v and > alone bring two parentheses, and there are more letters than those. */
        private final byte[] text = new byte[2 * WIDEST_SIZE];
        /** Of each open sign what is to be written behind its next part; of ~ that is nothing. */
        private final int[] pending = new int[WIDEST_SIZE];
        private int length = 0;
        private int depth = 0;

        /** Byte i of the text of the part that begins at start; NONE behind its end. */
        int byteOf(Line line, int start, int i) {
            length = 0;
            depth = 0;
            int end = line.endAt(start);
            for (int p = start; p < end; p++) {
                write(line.at(p));
            }
            return i >= 0 && i < length && i < text.length ? text[i] : NONE;
        }

        private void write(int sign) {
            if (letterOf(sign) >= 0) {
                append(sign);
                endPart();
            } else {
                append(sign == '~' ? sign : '(');
                open(sign);
            }
        }

        private void append(int sign) {
            if (length < text.length) {
                text[length] = (byte) sign;
                length++;
            }
        }

        private void open(int sign) {
            if (depth < pending.length) {
                pending[depth] = sign;
                depth++;
            }
        }

        private void endPart() {
            while (depth > 0 && depth <= pending.length) {
                int sign = pending[depth - 1];
                if (sign == 'v' || sign == '>') {
                    append(sign);
                    pending[depth - 1] = ')';
                    return;
                }
                if (sign == ')') {
                    append(sign);
                }
                depth--;
            }
        }
    }

    /** What is put for letters, each a part of one line. */
    private static final class Putting {
        private final int[] starts = new int[LETTERS];
        private Line source = null;

        /** Whether the part of b at j comes of the part of a at i; what is put then is kept. */
        boolean makes(Line a, int i, Line b, int j) {
            source = b;
            Arrays.fill(starts, -1);
            int end = a.endAt(i);
            int at = j;
            for (int p = i; p < end; p++) {
                int letter = letterOf(a.at(p));
                if (letter < 0) {
                    if (b.at(at) != a.at(p)) {
                        return false;
                    }
                    at++;
                } else {
                    if (starts[letter] < 0) {
                        starts[letter] = at;
                    } else if (!b.samePart(starts[letter], b, at)) {
                        return false;
                    }
                    at = b.endAt(at);
                }
            }
            return true;
        }

        /** Where what is put for a letter begins; below 0 if nothing is put for it. */
        int startOf(int letter) {
            return letter >= 0 && letter < LETTERS ? starts[letter] : -1;
        }

        /** Adds the part of a line at start with that put; letters for which nothing is put stay. */
        void addPut(Line out, Line line, int start) {
            int end = line.endAt(start);
            for (int p = start; p < end; p++) {
                int put = startOf(letterOf(line.at(p)));
                if (put >= 0 && source != null) {
                    out.addPart(source, put);
                } else {
                    out.add(line.at(p));
                }
            }
        }
    }

    /** Makes two lines alike by the widest putting. */
    private static final class Widest {
        private final Line left = new Line(WIDEST_SIZE);
        private final Line right = new Line(WIDEST_SIZE);
        private final Line part = new Line(WIDEST_SIZE);
        private final Line spare = new Line(WIDEST_SIZE);

        /** Whether there is one; left and right both are what it makes of a and b then. */
        boolean makeAlike(Line a, Line b) {
            left.become(a, 0);
            right.become(b, 0);
            // each round does away with one letter for good
            for (int round = 0; round <= LETTERS; round++) {
                int i = firstUnlike();
                if (i >= left.size) {
                    return true;
                }
                if (!putAt(i)) {
                    return false;
                }
            }
            return false;
        }

        private int firstUnlike() {
            int i = 0;
            while (i < left.size && left.at(i) == right.at(i)) {
                i++;
            }
            return i;
        }

        private boolean putAt(int i) {
            boolean ofLeft = letterOf(left.at(i)) >= 0;
            int letter = ofLeft ? left.at(i) : right.at(i);
            if (letterOf(letter) < 0) {
                return false;
            }
            part.become(ofLeft ? right : left, i);
            return !part.has(letter) && putEverywhere(left, letter) && putEverywhere(right, letter);
        }

        private boolean putEverywhere(Line line, int letter) {
            spare.clear();
            for (int i = 0; i < line.size; i++) {
                if (line.at(i) == letter) {
                    spare.addPart(part, 0);
                } else {
                    spare.add(line.at(i));
                }
            }
            if (spare.spilled) {
                return false;
            }
            spare.settle();
            line.become(spare, 0);
            return true;
        }
    }

    /** The checker of steps, and how high steps reach. */
    private static final class Steps {
        private final Putting putting = new Putting();
        private final int[] heights = new int[MOST_LINES];

        boolean allow(Line line, int kind, Line a, Line b) {
            if (line == null || a == null) {
                return false;
            }
            switch (kind) {
                case STEP_PUT: return putting.makes(a, 0, line, 0);
                case STEP_THEN: return b != null && isThen(line, a, b);
                case STEP_CHAIN: return b != null && isChain(line, a, b);
                case STEP_MEANING: return opensIf(a, line) || opensIf(line, a);
                default: return false;
            }
        }

        /** HEIGHT of a line of the table: round by round, each with the lines that have a height by then. */
        int heightOf(Table table, int line) {
            for (int n = 0; n < MOST_LINES; n++) {
                heights[n] = table.lineAt(n) != null && table.howIs(n) == GIVEN ? 0 : NONE;
            }
            boolean grown = true;
            for (int round = 1; round <= MOST_LINES && grown; round++) {
                grown = false;
                for (int n = 0; n < table.lineCount && n < MOST_LINES; n++) {
                    if (heights[n] == NONE && isReached(table, table.lineAt(n), round)) {
                        heights[n] = round;
                        grown = true;
                    }
                }
            }
            return line >= 0 && line < MOST_LINES ? heights[line] : NONE;
        }

        private boolean isThen(Line line, Line a, Line b) {
            return b.isIf() && b.samePart(1, a, 0) && b.samePart(b.second(), line, 0);
        }

        private boolean isChain(Line line, Line a, Line b) {
            return a.isIf() && b.isIf() && line.isIf()
                && a.samePart(a.second(), b, 1)
                && line.samePart(1, a, 1)
                && line.samePart(line.second(), b, b.second());
        }

        /** Whether one change of ( X > Y ) to ( ~ X v Y ) makes the one line the other: > X Y becomes v ~ X Y. */
        private boolean opensIf(Line shut, Line opened) {
            if (opened.size != shut.size + 1) {
                return false;
            }
            int i = 0;
            while (i < shut.size && shut.at(i) == opened.at(i)) {
                i++;
            }
            if (shut.at(i) != '>' || opened.at(i) != 'v' || opened.at(i + 1) != '~') {
                return false;
            }
            for (int k = i + 1; k < shut.size; k++) {
                if (shut.at(k) != opened.at(k + 1)) {
                    return false;
                }
            }
            return true;
        }

        private boolean hasHeightBelow(int n, int round) {
            return heights[n] >= 0 && heights[n] < round;
        }

        /** Whether a step from lines of lower heights reaches it; one of them is of the round before, or it would be reached by now. */
        private boolean isReached(Table table, Line line, int round) {
            for (int n = 0; n < table.lineCount && n < MOST_LINES; n++) {
                if (!hasHeightBelow(n, round)) {
                    continue;
                }
                Line a = table.lineAt(n);
                boolean fresh = heights[n] == round - 1;
                if (fresh && (allow(line, STEP_PUT, a, null) || allow(line, STEP_MEANING, a, null))) {
                    return true;
                }
                for (int m = 0; m < table.lineCount && m < MOST_LINES; m++) {
                    boolean useful = hasHeightBelow(m, round) && (fresh || heights[m] == round - 1);
                    Line b = useful ? table.lineAt(m) : null;
                    if (b != null && (allow(line, STEP_THEN, a, b) || allow(line, STEP_CHAIN, a, b))) {
                        return true;
                    }
                }
            }
            return false;
        }
    }

    /** A program: its m, d, c in order, and what l, k, s tell. */
    private static final class Program {
        private static final int AT_STATEMENT = 0;
        private static final int AT_END = 1;
        private static final int AT_NUMBER = 2;
        private static final int MOST_DIGITS = 3;

        private final byte[] acts;
        private int actCount = 0;
        private boolean likeAlone = false;
        private int last = UNBOUNDED;
        private int stop = USUAL_ACTS;
        private int state = AT_STATEMENT;
        private int numbered = 0;
        private int number = 0;
        private int digits = 0;

        Program(int bytes) {
            acts = new byte[Math.max(bytes, 0)];
        }

        /** The place of the FAULT, or NONE. */
        int readText(int[] text, int n) {
            for (int i = 0; i < n && i < text.length; i++) {
                if (!accepts(text[i])) {
                    return i;
                }
            }
            // a text without a STATEMENT ends too early, as one in the midst of a STATEMENT does
            return n > 0 && state == AT_STATEMENT ? NONE : n;
        }

        int actAt(int i) {
            return i >= 0 && i < actCount && i < acts.length ? acts[i] : 0;
        }

        private boolean accepts(int sign) {
            switch (state) {
                case AT_STATEMENT: return beginsStatement(sign);
                case AT_NUMBER: return goesOnNumber(sign);
                default: return endsStatement(sign);
            }
        }

        private boolean beginsStatement(int sign) {
            if (sign == 'm' || sign == 'd' || sign == 'c') {
                addAct(sign);
                state = AT_END;
            } else if (sign == 'l') {
                likeAlone = true;
                state = AT_END;
            } else if (sign == 'k' || sign == 's') {
                numbered = sign;
                number = 0;
                digits = 0;
                state = AT_NUMBER;
            } else {
                return false;
            }
            return true;
        }

        private void addAct(int sign) {
            if (actCount < acts.length) {
                acts[actCount] = (byte) sign;
                actCount++;
            }
        }

        private boolean goesOnNumber(int sign) {
            int least = digits == 0 ? '1' : '0';
            if (sign >= least && sign <= '9' && digits < MOST_DIGITS) {
                number = number * 10 + (sign - '0');
                digits++;
                return true;
            }
            if (digits == 0 || sign != ';') {
                return false;
            }
            if (numbered == 'k') {
                last = number;
            } else {
                stop = Math.min(number, MOST_ACTS);
            }
            state = AT_STATEMENT;
            return true;
        }

        private boolean endsStatement(int sign) {
            state = AT_STATEMENT;
            return sign == ';';
        }
    }

    /** A run: needs on a list, acts on them with the known lines, till one need comes of a known line. */
    private static final class Search {
        private final Line[] needs = new Line[MOST_NEEDS];
        private final int[] depths = new int[MOST_NEEDS];
        private final Line[] known = new Line[MOST_LINES];
        private final int[] numbers = new int[MOST_LINES];
        private final Putting putting = new Putting();
        private Line draft = new Line(NEED_SIZE);
        private int needCount = 0;
        private int knownCount = 0;
        private boolean likeAlone = false;
        private int stop = 0;
        private int acts = 0;
        private boolean over = false;
        private boolean shown = false;
        private int shownDepth = 0;
        private int shownBy = 0;
        private int seed = 0;
        private int odds = 0;
        private int seenSlips = 0;
        private int unseenSlips = 0;

        Search() {
            for (int i = 0; i < MOST_NEEDS; i++) {
                needs[i] = new Line(i == 0 ? MOST_BYTES : NEED_SIZE);
            }
        }

        void learnAll(Table table) {
            knownCount = 0;
            for (int i = 0; i < table.knownCount; i++) {
                int number = table.knownAt(i);
                learn(number, table.lineAt(number));
            }
        }

        void learn(int number, Line line) {
            if (line != null && knownCount < MOST_LINES) {
                known[knownCount] = line;
                numbers[knownCount] = number;
                knownCount++;
            }
        }

        void setSlips(int z, int told) {
            seed = z;
            odds = told;
        }

        Line needAt(int i) {
            return i >= 0 && i < needCount && i < MOST_NEEDS ? needs[i] : null;
        }

        /** Runs a program on a line; needs of the deepest depth aren't gone on from. */
        void look(Program program, Line line, int deepest) {
            if (program == null || line == null) {
                return;
            }
            begin(program, line);
            int first = Math.max(knownCount - program.last, 0);
            for (int n = 0; n < MOST_NEEDS && n < needCount && !over; n++) {
                if (depths[n] >= deepest) {
                    continue;
                }
                for (int s = 0; s < program.actCount && !over; s++) {
                    int act = program.actAt(s);
                    for (int k = first; k < knownCount && k < MOST_LINES && !over; k++) {
                        if (act == 'm') {
                            tryMatch(n, k);
                        } else if (act == 'd') {
                            tryBack(n, needs[n], known[k]);
                        } else {
                            tryChainAhead(n, needs[n], known[k]);
                            tryChainBehind(n, needs[n], known[k]);
                        }
                    }
                }
            }
        }

        private void begin(Program program, Line line) {
            likeAlone = program.likeAlone;
            stop = program.stop;
            acts = 0;
            over = false;
            shown = false;
            seenSlips = 0;
            unseenSlips = 0;
            needs[0].become(line, 0);
            depths[0] = 0;
            needCount = 1;
        }

        /** Whether an act on the need's part i and the card's part j is done; it is counted then. */
        private boolean isDone(Line need, int i, Line card, int j) {
            if (over || (likeAlone && !need.isLike(i, card, j))) {
                return false;
            }
            if (acts >= stop) {
                over = true;
                return false;
            }
            acts++;
            return true;
        }

        private void tryMatch(int n, int k) {
            Line need = needs[n];
            Line card = known[k];
            if (!isDone(need, 0, card, 0)) {
                return;
            }
            boolean comes = putting.makes(card, 0, need, 0);
            boolean said = comes != isSlip();
            if (comes && said) {
                over = true;
                shown = true;
                shownDepth = depths[n];
                shownBy = numbers[k];
            } else if (said) {
                seenSlips++;
            } else if (comes) {
                unseenSlips++;
            }
        }

        private boolean isSlip() {
            seed = seed * 1103515245 + 12345;
            return (seed & WITHOUT_SIGN) / 65536 % 100 < odds;
        }

        private void tryBack(int n, Line need, Line card) {
            if (!card.isIf()) {
                return;
            }
            int second = card.second();
            if (isDone(need, 0, card, second) && putting.makes(card, second, need, 0)) {
                draft.clear();
                putting.addPut(draft, card, 1);
                offerNeed(n);
            }
        }

        private void tryChainAhead(int n, Line need, Line card) {
            if (!card.isIf() || !need.isIf()) {
                return;
            }
            if (isDone(need, 1, card, 1) && putting.makes(card, 1, need, 1)) {
                draft.clear();
                draft.add('>');
                putting.addPut(draft, card, card.second());
                draft.addPart(need, need.second());
                offerNeed(n);
            }
        }

        private void tryChainBehind(int n, Line need, Line card) {
            if (!card.isIf() || !need.isIf()) {
                return;
            }
            int second = card.second();
            if (isDone(need, need.second(), card, second) && putting.makes(card, second, need, need.second())) {
                draft.clear();
                draft.add('>');
                draft.addPart(need, 1);
                putting.addPut(draft, card, 1);
                offerNeed(n);
            }
        }

        private void offerNeed(int n) {
            if (draft.spilled || needCount >= MOST_NEEDS) {
                return;
            }
            draft.settle();
            for (int i = 0; i < needCount; i++) {
                if (needs[i].samePart(0, draft, 0)) {
                    return;
                }
            }
            // the draft goes on the list, and the line that stood there is the next draft
            Line spare = needs[needCount];
            needs[needCount] = draft;
            depths[needCount] = depths[n] + 1;
            needCount++;
            draft = spare;
        }
    }

    /** What lies on the table: lines, how they are, programs; what an image keeps. */
    private static final class Table {
        private final Line[] lines = new Line[MOST_LINES];
        private final int[] states = new int[MOST_LINES];
        private final int[] known = new int[MOST_LINES];
        private final int[] kinds = new int[MOST_LINES];
        private final int[] firsts = new int[MOST_LINES];
        private final int[] seconds = new int[MOST_LINES];
        private final Program[] programs = new Program[MOST_PROGRAMS];
        private int lineCount = 0;
        private int knownCount = 0;
        private int programCount = 0;

        Line lineAt(int n) {
            return n >= 0 && n < lineCount && n < MOST_LINES ? lines[n] : null;
        }

        Program programAt(int n) {
            return n >= 0 && n < programCount && n < MOST_PROGRAMS ? programs[n] : null;
        }

        int howIs(int n) {
            return n >= 0 && n < lineCount && n < MOST_LINES ? states[n] : SOUGHT;
        }

        int knownAt(int i) {
            return i >= 0 && i < knownCount && i < MOST_LINES ? known[i] : NONE;
        }

        int placeOf(int line) {
            for (int i = 0; i < knownCount; i++) {
                if (knownAt(i) == line) {
                    return i;
                }
            }
            return NONE;
        }

        int sourceOf(int n, int what) {
            if (n < 0 || n >= MOST_LINES) {
                return NONE;
            }
            return what == 0 ? kinds[n] : what == 1 ? firsts[n] : seconds[n];
        }

        int addLine(Line line) {
            if (lineCount >= MOST_LINES) {
                return NO_ROOM;
            }
            lines[lineCount] = line;
            states[lineCount] = SOUGHT;
            lineCount++;
            return lineCount - 1;
        }

        int addProgram(Program program) {
            if (programCount >= MOST_PROGRAMS) {
                return NO_ROOM;
            }
            programs[programCount] = program;
            programCount++;
            return programCount - 1;
        }

        void makeKnown(int n, int state) {
            if (n >= 0 && n < MOST_LINES && knownCount < MOST_LINES) {
                states[n] = state;
                known[knownCount] = n;
                knownCount++;
            }
        }

        void noteSource(int n, int kind, int a, int b) {
            if (n >= 0 && n < MOST_LINES) {
                kinds[n] = kind;
                firsts[n] = a;
                seconds[n] = b;
            }
        }

        int countOf(int state) {
            int found = 0;
            for (int n = 0; n < lineCount; n++) {
                if (howIs(n) == state) {
                    found++;
                }
            }
            return found;
        }

        int allSizes() {
            int sum = 0;
            for (int n = 0; n < lineCount; n++) {
                Line line = lineAt(n);
                sum += line == null ? 0 : line.size;
            }
            return sum;
        }

        int trueLines() {
            int found = 0;
            for (int n = 0; n < lineCount; n++) {
                Line line = lineAt(n);
                if (line != null && line.isTrue()) {
                    found++;
                }
            }
            return found;
        }

        void copyOf(Table other) {
            for (int n = 0; n < MOST_LINES; n++) {
                lines[n] = other.lines[n];
                states[n] = other.states[n];
                known[n] = other.known[n];
                kinds[n] = other.kinds[n];
                firsts[n] = other.firsts[n];
                seconds[n] = other.seconds[n];
            }
            for (int n = 0; n < MOST_PROGRAMS; n++) {
                programs[n] = other.programs[n];
            }
            lineCount = other.lineCount;
            knownCount = other.knownCount;
            programCount = other.programCount;
        }
    }

    /** A shelf: nothing, a card, or a row. */
    private static final class Shelf {
        private static final int NO_ROW = -1;

        private final int[] elements = new int[MOST_ELEMENTS];
        private int sort = NO_ROW;
        private int size = 0;
        private Card card = null;

        void holdNothing() {
            card = null;
            sort = NO_ROW;
            size = 0;
        }

        void holdCard(Card told) {
            holdNothing();
            card = told;
        }

        void holdRow(int told, int n) {
            card = null;
            sort = told;
            size = n;
            Arrays.fill(elements, 0);
        }

        boolean isEmpty() {
            return card == null && sort == NO_ROW;
        }

        int rowRefusal() {
            return sort != NO_ROW ? 0 : card == null ? EMPTY : OTHER_KIND;
        }

        int bytesRefusal() {
            return sort > SORT_BYTES ? OTHER_KIND : rowRefusal();
        }

        int cardRefusal() {
            return card != null ? 0 : sort == NO_ROW ? EMPTY : OTHER_KIND;
        }

        boolean hasPlace(int i) {
            return i >= 0 && i < size && i < MOST_ELEMENTS;
        }

        boolean hasPlaces(int i, int n) {
            return i >= 0 && n >= 0 && n <= size && i <= size - n;
        }

        int elementAt(int i) {
            return hasPlace(i) ? elements[i] : 0;
        }

        boolean setElement(int i, int v) {
            if (!hasPlace(i)) {
                return false;
            }
            elements[i] = sort == SORT_BYTES ? (byte) v : sort == SORT_SHORTS ? (short) v : v;
            return true;
        }
    }

    /** A card of a kind, of a line as it was when the card was laid on its shelf. */
    private static final class Card {
        private final int kind;
        private final int number;
        private final Line line;

        Card(int kind, int number, Line line) {
            this.kind = kind;
            this.number = number;
            this.line = line;
        }

        int work() {
            switch (kind) {
                case KIND_MATCH: return matchWork();
                case KIND_BACK: return backWork();
                case KIND_CHAIN: return backWork() + line.levelAt(0);
                case KIND_LIKE: return line.size + line.unlikeAt(0);
                case KIND_KEPT: return line.size - 1;
                case KIND_CHILD: return 2 * matchWork();
                default: return line.size;
            }
        }

        /** Throws the failure of this card, if it has one. */
        void fail() {
            if (kind != KIND_KEPT && line.size > 1) {
                throw new IllegalStateException("the card failed");
            }
        }

        int failureNumber() {
            switch (kind) {
                case KIND_CHAIN: return number + 100;
                case KIND_CHILD: return 200 + line.levelAt(0);
                default: return number;
            }
        }

        private int matchWork() {
            return line.size + line.placesAt(0);
        }

        private int backWork() {
            return 2 * line.size;
        }
    }
}

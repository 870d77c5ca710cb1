import java.util.ArrayList;
import java.util.List;
import java.util.function.ToLongFunction;

/**
 * "A refused call changes nothing": each call of the face is refused on an object of its own, that is compared
 * with an untouched one then. So are calls that only tell (runs, orders and slips are in mind alone).
 */
public final class RefusalsTest {
    private static final Check check = new Check("RefusalsTest");
    private static final int LEAST = Integer.MIN_VALUE;
    private static final int MOST = Integer.MAX_VALUE;
    private static final String[] LINES = {"(p>q)", "p", "q", "(rvs)", "((pvq)>(qvp))", "(uv~u)"};
    private static final int BYTES = 0;
    private static final int SHORTS = 1;
    private static final int INTS = 2;
    private static final int CARD = 3;
    private static final int NOTHING = 4;
    private static final int TEXT = 5;

    public static void main(String[] args) {
        lines();
        steps();
        programs();
        heights();
        images();
        shelves();
        rows();
        full();
        tellingCalls();
        check.end();
    }

    /** Lines 0, 1 and 4 given, 2 shown, 3 and 5 sought, an image of that; line 6 is behind the image. */
    private static KitchenCards table() {
        KitchenCards x = new KitchenCards();
        for (String text : LINES) {
            Check.line(x, text);
        }
        x.give(1);
        x.give(0);
        x.step(2, 1, 1, 0);
        x.give(4);
        Check.program(x, "m;d;");
        Check.program(x, "c;s3;");
        x.image();
        Check.given(x, "~~t");
        Check.layBytes(x, BYTES, 3, 5);
        x.row(SHORTS, 1, 2);
        x.put(SHORTS, 1, -300);
        x.row(INTS, 2, 3);
        x.put(INTS, 0, 70000);
        x.keep(CARD, 1, 3, 4);
        x.keep(NOTHING, 0, 0, 0);
        Check.lay(x, TEXT, "(pvx)");
        x.keep(7, 0, 0, 0);
        return x;
    }

    private static long element(KitchenCards x, int d, int i) {
        try {
            return x.element(d, i);
        } catch (IllegalArgumentException none) {
            return 1L << 40;
        } catch (IllegalStateException none) {
            return 1L << 41;
        }
    }

    /** All that the object tells of itself, of the image last. */
    private static List<Long> all(KitchenCards x) {
        List<Long> told = new ArrayList<>();
        counts(x, told);
        for (int d = 0; d < 8; d++) {
            told.add((long) x.effort(d));
            told.add((long) x.toss(d));
            for (int i = 0; i < 6; i++) {
                told.add(element(x, d, i));
            }
        }
        for (int what = 0; what < 5; what++) {
            told.add((long) x.run(0, 3, what));
            told.add((long) x.run(1, 5, what));
            told.add((long) x.run(2, 5, what));
        }
        told.add((long) x.height(2));
        told.add((long) x.restore());
        counts(x, told);
        return told;
    }

    private static void counts(KitchenCards x, List<Long> told) {
        for (int what = 0; what < 6; what++) {
            told.add((long) x.count(what));
        }
        told.add(x.never());
        for (int line = 0; line < 8; line++) {
            for (int what = 4; what < 7; what++) {
                told.add((long) x.of(line, what));
                told.add((long) x.from(line, what - 4));
            }
            told.add((long) x.letter(line, 1));
        }
    }

    private static void due(String call, long want, ToLongFunction<KitchenCards> refused) {
        KitchenCards x = table();
        check.due(call, refused.applyAsLong(x), want);
        check.same(call + " changes nothing", all(x).toString(), all(table()).toString());
    }

    private static void lines() {
        due("fault(-1)", -1, x -> x.fault(-1));
        due("fault(8)", -1, x -> x.fault(8));
        due("fault of nothing", -11, x -> x.fault(NOTHING));
        due("fault of a card", -12, x -> x.fault(CARD));
        due("fault of shorts", -12, x -> x.fault(SHORTS));
        due("line(-1)", -1, x -> x.line(-1));
        due("line(8)", -1, x -> x.line(8));
        due("line of nothing", -11, x -> x.line(NOTHING));
        due("line of a card", -12, x -> x.line(CARD));
        due("line of shorts", -12, x -> x.line(SHORTS));
        due("line of ints", -12, x -> x.line(INTS));
        due("line of a text with a fault", -103, x -> x.line(TEXT));
        due("of(7, 0)", -1, x -> x.of(7, 0));
        due("of(0, 7)", -1, x -> x.of(0, 7));
        due("letter(0, -1)", -1, x -> x.letter(0, -1));
        due("letter(0, 5)", -4, x -> x.letter(0, 5));
        due("give(-1)", -1, x -> x.give(-1));
        due("give(7)", -1, x -> x.give(7));
        due("give of a given one", 0, x -> x.give(0));
        due("give of a shown one", 0, x -> x.give(2));
        due("table(7)", -1, x -> x.table(7));
        due("pair(0, 7, 0)", -1, x -> x.pair(0, 7, 0));
        due("pair(0, 0, 3)", -1, x -> x.pair(0, 0, 3));
    }

    private static void steps() {
        due("widest(0, 1, -2)", -1, x -> x.widest(0, 1, -2));
        due("widest(1, 0, -1)", -4, x -> x.widest(1, 0, -1));
        due("must(0, 1, 'p', 0)", -4, x -> x.must(0, 1, 'p', 0));
        due("must(0, 0, 'v', 0)", -1, x -> x.must(0, 0, 'v', 0));
        due("step(7, 0, 0, 0)", -1, x -> x.step(7, 0, 0, 0));
        due("step(3, 4, 0, 0)", -1, x -> x.step(3, 4, 0, 0));
        due("step(3, 0, 7, 0)", -1, x -> x.step(3, 0, 7, 0));
        due("step(3, 1, 0, 7)", -1, x -> x.step(3, 1, 0, 7));
        due("step of a given one", -3, x -> x.step(1, 0, 1, 0));
        due("step of a shown one", -3, x -> x.step(2, 1, 1, 0));
        due("step from a sought one", -3, x -> x.step(5, 0, 5, 0));
        due("step that isn't so", -3, x -> x.step(3, 0, 0, 0));
        due("step that isn't so, of two", -3, x -> x.step(3, 1, 1, 0));
        due("check(3, -1, 0, 0)", -1, x -> x.check(3, -1, 0, 0));
        due("from(0, 0)", -3, x -> x.from(0, 0));
        due("from(2, 3)", -1, x -> x.from(2, 3));
    }

    private static void programs() {
        due("program(-1)", -1, x -> x.program(-1));
        due("program(8)", -1, x -> x.program(8));
        due("program of nothing", -11, x -> x.program(NOTHING));
        due("program of a card", -12, x -> x.program(CARD));
        due("program of ints", -12, x -> x.program(INTS));
        due("program of a text with a fault", -100, x -> x.program(TEXT));
        due("run(2, 3, 0)", -1, x -> x.run(2, 3, 0));
        due("run(0, 3, 5)", -1, x -> x.run(0, 3, 5));
        due("run of a known one", -3, x -> x.run(0, 2, 0));
        due("need(0, 3, -1, 0)", -1, x -> x.need(0, 3, -1, 0));
        due("need(0, 3, 9, 0)", -4, x -> x.need(0, 3, 9, 0));
        due("show(-1, 3)", -1, x -> x.show(-1, 3));
        due("show(2, 3)", -1, x -> x.show(2, 3));
        due("show(0, 7)", -1, x -> x.show(0, 7));
        due("show of a given one", -3, x -> x.show(0, 0));
        due("show of a shown one", -3, x -> x.show(0, 2));
        due("show of one that the run doesn't show", -4, x -> x.show(1, 5));
        due("tree(3, -1)", -1, x -> x.tree(3, -1));
        due("tree(3, 10)", -1, x -> x.tree(3, 10));
    }

    private static void heights() {
        due("height(7)", -1, x -> x.height(7));
        due("order(2, BYTES, 0)", -1, x -> x.order(2, BYTES, 0));
        due("order(0, BYTES, 2)", -1, x -> x.order(0, BYTES, 2));
        due("order of nothing", -11, x -> x.order(0, NOTHING, 0));
        due("order of a card", -12, x -> x.order(0, CARD, 0));
        due("order of a text", -13, x -> x.order(0, TEXT, 0));
        due("best order of nothing", -11, x -> x.bestOrder(0, NOTHING, 0));
        due("best order of shorts", -12, x -> x.bestOrder(0, SHORTS, 0));
        due("best order of a text", -13, x -> x.bestOrder(0, TEXT, 2));
        due("slips with odds 101", -1, x -> x.slips(0, 3, 5, 101, 0));
        due("slips of a known one", -3, x -> x.slips(0, 0, 5, 100, 0));
    }

    private static void images() {
        due("count(6)", -1, x -> x.count(6));
        KitchenCards x = new KitchenCards();
        Check.given(x, "p");
        Check.program(x, "m;");
        check.due("restore of none", x.restore(), -3);
        check.due("a line still", x.count(0), 1);
        check.due("given still", x.of(0, 5), 1);
        check.due("a program still", x.count(3), 1);
    }

    private static void shelves() {
        for (int d = 0; d < 8; d++) {
            int e = d;
            due("keep of kind 7 on " + d, -1, x -> x.keep(e, 1, 7, 0));
            due("keep of kind -1 on " + d, -1, x -> x.keep(e, 1, -1, 0));
            due("keep of line 7 on " + d, -1, x -> x.keep(e, 1, 0, 7));
            due("keep of line -1 on " + d, -1, x -> x.keep(e, 1, 0, -1));
            due("keep what 2 on " + d, -1, x -> x.keep(e, 2, 0, 0));
            due("keep what -1 on " + d, -1, x -> x.keep(e, -1, 0, 0));
            due("row of sort 3 on " + d, -1, x -> x.row(e, 3, 1));
            due("row of sort -1 on " + d, -1, x -> x.row(e, -1, 1));
            due("row of 121 on " + d, -1, x -> x.row(e, 0, 121));
            due("row of -1 on " + d, -14, x -> x.row(e, 0, -1));
        }
        due("keep on -1", -1, x -> x.keep(-1, 0, 0, 0));
        due("keep on 8", -1, x -> x.keep(8, 1, 0, 0));
        due("row on -1", -1, x -> x.row(-1, 0, 1));
        due("row on 8", -1, x -> x.row(8, 0, 1));
        due("effort of nothing", -11, x -> x.effort(NOTHING));
        due("effort of a row", -12, x -> x.effort(BYTES));
        due("toss of nothing", -11, x -> x.toss(NOTHING));
        due("toss of a row", -12, x -> x.toss(INTS));
        due("toss of a letter", -15, x -> x.keep(6, 1, 0, 1) + x.toss(6) + x.keep(6, 0, 0, 0));
    }

    private static void rows() {
        due("put on -1", -1, x -> x.put(-1, 0, 1));
        due("put on 8", -1, x -> x.put(8, 0, 1));
        due("put on nothing", -11, x -> x.put(NOTHING, 0, 1));
        due("put on a card", -12, x -> x.put(CARD, 0, 1));
        due("put at -1", -13, x -> x.put(BYTES, -1, 1));
        due("put at the size", -13, x -> x.put(INTS, 3, 1));
        due("element(8, 0)", 1L << 40, x -> element(x, 8, 0));
        due("element at the size", 1L << 41, x -> element(x, SHORTS, 2));
        due("copy from -1", -1, x -> x.copy(-1, 0, BYTES, 0, 1));
        due("copy to 8", -1, x -> x.copy(BYTES, 0, 8, 0, 1));
        due("copy of nothing", -11, x -> x.copy(NOTHING, 0, BYTES, 0, 1));
        due("copy to nothing", -11, x -> x.copy(BYTES, 0, NOTHING, 0, 1));
        due("copy of a card", -12, x -> x.copy(CARD, 0, BYTES, 0, 1));
        due("copy of shorts to bytes", -12, x -> x.copy(SHORTS, 1, BYTES, 0, 1));
        due("copy of bytes to ints", -12, x -> x.copy(BYTES, 0, INTS, 0, 1));
        due("copy of one too many", -13, x -> x.copy(INTS, 0, INTS, 1, 3));
        due("copy of -1", -13, x -> x.copy(BYTES, 0, TEXT, 0, -1));
        due("copy of the least", -13, x -> x.copy(BYTES, 0, TEXT, 0, LEAST));
        due("copy of the most", -13, x -> x.copy(TEXT, 1, BYTES, 0, MOST));
        due("copy from behind", -13, x -> x.copy(BYTES, 1, TEXT, 0, 2));
        due("copy to behind", -13, x -> x.copy(TEXT, 0, BYTES, 1, 2));
        due("copy of none", 0, x -> x.copy(TEXT, 0, BYTES, 0, 0));
    }

    /** With 40 lines and 6 programs. */
    private static void full() {
        KitchenCards x = new KitchenCards();
        Check.lay(x, 0, "(p>q)");
        while (x.line(0) >= 0) {
            x.give(x.count(0) - 1);
        }
        Check.lay(x, 1, "m;");
        for (int n = 0; n < 6; n++) {
            x.program(1);
        }
        check.due("a 41st line", x.line(0), -2);
        check.due("a seventh program", x.program(1), -2);
        int[] due = {40, 40, 0, 6, 120, 0};
        for (int what = 0; what < due.length; what++) {
            check.due("count(" + what + ") of a full table", x.count(what), due[what]);
        }
        check.due("the last line stays given", x.of(39, 6), 39);
    }

    /** Calls that answer and change nothing, either. */
    private static void tellingCalls() {
        // everything comes of line 1, a letter
        due("run", 2, x -> x.run(0, 3, 0) + x.run(0, 5, 0));
        due("need", 'r', x -> x.need(0, 3, 0, 1));
        due("tree", 3, x -> x.tree(3, 9));
        due("order", 2, x -> x.order(0, BYTES, 0));
        due("best order", 2, x -> x.bestOrder(0, BYTES, 0));
        due("slips", 0, x -> x.slips(0, 3, 5, 100, 0));
        due("height", 1, x -> x.height(2));
        due("check", 1, x -> x.check(2, 1, 1, 0));
        due("widest", 3, x -> x.widest(0, 0, -1));
        due("must", 'q', x -> x.must(0, 0, 'q', 0));
    }
}

/**
 * The sentences of promises 24 to 33, and of the terms they use, that name a boundary case:
 * each has a check of its own, named by the promise's number and the document's words.
 */
public final class EdgesOfShelvesTest {
    private static final Check check = new Check("EdgesOfShelvesTest");
    private static final int LEAST = Integer.MIN_VALUE;
    private static final int MOST = Integer.MAX_VALUE;

    public static void main(String[] args) {
        promises24And25();
        promise26();
        promise27();
        promise28();
        promises29And30();
        promise31();
        promises32And33();
        check.end();
    }

    private static void promises24And25() {
        KitchenCards x = new KitchenCards();
        check.due("25: -3, there is none", x.restore(), -3);
        check.due("24: no LINES", x.image(), 0);
        check.due("25: no LINES", x.restore(), 0);
        for (int n = 0; n < 3; n++) {
            Check.line(x, "(p>q)");
        }
        check.due("24: three LINES", x.image(), 3);
        Check.given(x, "p");
        x.give(1);
        Check.program(x, "m;");
        check.due("25: three LINES", x.restore(), 3);
        check.due("25: how they are", x.of(1, 5), 0);
        check.due("25: no KNOWN ones", x.of(1, 6), -4);
        check.due("25: no LINE behind those", x.of(3, 0), -1);
        check.due("25: no PROGRAM", x.run(0, 0, 0), -1);
        check.due("25: a new LINE where a GIVEN one was is SOUGHT", x.of(Check.line(x, "q"), 5), 0);
        check.due("25: again", x.restore(), 3);
        x.give(2);
        check.due("24: a new image takes the first one's place", x.image(), 3);
        check.due("25: restored to the new one", x.restore(), 3);
        check.due("25: as it was then", x.of(2, 5), 1);
        check.due("25: the first KNOWN one", x.of(2, 6), 0);
        Check.lay(x, 7, "~u");
        while (x.line(7) >= 0) {
            x.give(x.count(0) - 1);
        }
        check.due("24: 40 LINES", x.image(), 40);
        for (int n = 0; n < 6; n++) {
            Check.program(x, "m;");
        }
        check.due("25: 40 LINES", x.restore(), 40);
        check.due("25: there is room for a PROGRAM", Check.program(x, "m;"), 0);
        check.due("25: and none for a LINE", Check.line(x, "p"), -2);
    }

    private static void promise26() {
        KitchenCards x = Check.with("p", "(pv~p)", Check.sixty());
        x.give(0);
        x.step(1, 0, 0, 0);
        int[] due = {3, 1, 1, 0, 1 + 4 + 50, 2};
        for (int what = 0; what < due.length; what++) {
            check.due("26: count(" + what + ")", x.count(what), due[what]);
        }
        int[] others = {-1, 6, LEAST, MOST};
        for (int what : others) {
            check.due("26: -1 for others, " + what, x.count(what), -1);
        }
    }

    private static void promise27() {
        KitchenCards x = Check.with("(p>q)");
        for (int d : Check.NO_SHELF) {
            check.due("27: -1, a CARD on shelf " + d, x.keep(d, 1, 0, 0), -1);
            check.due("27: -1, nothing on shelf " + d, x.keep(d, 0, 0, 0), -1);
        }
        check.due("27: shelf 7, KIND 6", x.keep(7, 1, 6, 0), 0);
        int[] kinds = {-1, 7, LEAST, MOST};
        for (int k : kinds) {
            check.due("27: -1, KIND " + k, x.keep(7, 1, k, 0), -1);
            check.due("27: -1, line " + k, x.keep(7, 1, 0, k), -1);
            check.due("27: -1, what " + k, x.keep(7, k == 7 ? 2 : k, 0, 0), -1);
        }
        check.due("27: the CARD is there still", x.toss(7), 202);
        check.due("27: nothing (the others do not matter)", x.keep(7, 0, MOST, LEAST), 0);
        check.due("27: nothing is held", x.toss(7), -11);
        check.due("27: nothing in place of nothing", x.keep(7, 0, 0, 0), 0);
        x.row(0, 0, 2);
        check.due("27: a CARD in place of a ROW", x.keep(0, 1, 0, 0), 0);
        check.due("27: it is no ROW", x.put(0, 0, 1), -12);
        check.due("27: another CARD in its place", x.keep(0, 1, 3, 0), 0);
        check.due("27: the one that was kept last", x.toss(0), 100);
    }

    private static void promise28() {
        KitchenCards x = Check.with("(p>q)");
        for (int d : Check.NO_SHELF) {
            check.due("28: -1, shelf " + d, x.row(d, 0, 1), -1);
        }
        int[] sorts = {-1, 3, LEAST, MOST};
        for (int sort : sorts) {
            check.due("28: -1, SORT " + sort, x.row(0, sort, 1), -1);
            check.due("28: -1 ahead of -14, SORT " + sort, x.row(0, sort, -1), -1);
        }
        for (int sort = 0; sort < 3; sort++) {
            check.due("28: -1 (n above 120), SORT " + sort, x.row(sort, sort, 121), -1);
            check.due("28: -14, SORT " + sort, x.row(sort, sort, -1), -14);
            check.due("28: 120 elements, SORT " + sort, x.row(sort, sort, 120), 0);
            check.due("28: 0 at first, SORT " + sort, x.element(sort, 119), 0);
            x.put(sort, 119, 77);
            check.due("28: no elements, SORT " + sort, x.row(sort, sort, 0), 0);
            check.due("28: none, SORT " + sort, x.put(sort, 0, 1), -13);
            x.row(sort, sort, 120);
            check.due("28: 0 at first, though one was put ahead", x.element(sort, 119), 0);
        }
        check.due("28: -1 (n above 120), the most", x.row(0, 0, MOST), -1);
        check.due("28: -14, the least", x.row(0, 0, LEAST), -14);
        x.keep(7, 1, 0, 0);
        check.due("28: a ROW in place of a CARD", x.row(7, 0, 1), 0);
        check.due("28: it is no CARD", x.effort(7), -12);
    }

    private static void promises29And30() {
        KitchenCards x = Check.with("p");
        for (int d : Check.NO_SHELF) {
            check.due("29: -1, shelf " + d, x.put(d, 0, 1), -1);
            check.due("30: no such SHELF, " + d, Check.thrown(x, d, 0), 1);
        }
        check.due("29: -11", x.put(1, 0, 1), -11);
        check.due("29: -11 ahead of -13", x.put(1, -1, 1), -11);
        check.due("30: no ROW, nothing", Check.thrown(x, 1, 0), 2);
        x.keep(1, 1, 0, 0);
        check.due("29: -12", x.put(1, 0, 1), -12);
        check.due("29: -12 ahead of -13", x.put(1, -1, 1), -12);
        check.due("30: no ROW, a CARD", Check.thrown(x, 1, 0), 2);
        x.row(2, 2, 3);
        int[] places = {-1, 3, 120, LEAST, MOST};
        for (int i : places) {
            check.due("29: -13, place " + i, x.put(2, i, 1), -13);
            check.due("30: no such place, " + i, Check.thrown(x, 2, i), 2);
        }
        check.due("29: the last place", x.put(2, 2, LEAST), 0);
        check.due("30: the last place", x.element(2, 2), LEAST);
        long[][] keeps = {{127, 127, 127, 127}, {128, -128, 128, 128}, {255, -1, 255, 255}, {256, 0, 256, 256}, {-129, 127, -129, -129},
            {32767, -1, 32767, 32767}, {32768, 0, -32768, 32768}, {65535, -1, -1, 65535}, {65536, 0, 0, 65536}, {MOST, -1, -1, MOST},
            {LEAST, 0, 0, LEAST}};
        for (int sort = 0; sort < 3; sort++) {
            x.row(3, sort, 1);
            for (long[] v : keeps) {
                x.put(3, 0, (int) v[0]);
                check.due("29: keeps its lowest bits, SORT " + sort + ", " + v[0], x.element(3, 0), v[sort + 1]);
            }
        }
        x.row(3, 0, 0);
        check.due("30: no such place, of none", Check.thrown(x, 3, 0), 2);
    }

    private static void promise31() {
        KitchenCards x = Check.with("p");
        Check.layBytes(x, 0, 1, 2, 3, 4);
        Check.layBytes(x, 1, 5, 6);
        for (int d : Check.NO_SHELF) {
            check.due("31: -1, from shelf " + d, x.copy(d, 0, 0, 0, 1), -1);
            check.due("31: -1, to shelf " + d, x.copy(0, 0, d, 0, 1), -1);
        }
        check.due("31: -11 (either), from", x.copy(2, 0, 0, 0, 1), -11);
        check.due("31: -11 (either), to", x.copy(0, 0, 2, 0, 1), -11);
        check.due("31: -11 (either), both", x.copy(2, 0, 2, 0, 1), -11);
        x.keep(3, 1, 0, 0);
        check.due("31: -11 ahead of -12, from", x.copy(2, 0, 3, 0, 1), -11);
        check.due("31: -11 ahead of -12, to", x.copy(3, 0, 2, 0, 1), -11);
        check.due("31: -12, two CARDS", x.copy(3, 0, 3, 0, 0), -12);
        check.due("31: -12, from a CARD", x.copy(3, 0, 0, 0, 0), -12);
        check.due("31: -12, to a CARD", x.copy(0, 0, 3, 0, 0), -12);
        x.row(4, 2, 4);
        check.due("31: -12 (no ROWS of one SORT)", x.copy(0, 0, 4, 0, 1), -12);
        check.due("31: -12 ahead of -13", x.copy(4, -1, 0, -1, -1), -12);
        int[][] refused = {{0, 0, -1}, {0, 0, LEAST}, {0, 0, 3}, {0, 1, 2}, {3, 0, 2}, {4, 0, 1}, {-1, 0, 1}, {0, -1, 1}, {0, 2, 1},
            {MOST, 0, 1}, {0, MOST, 1}, {1, 1, MOST}, {LEAST, LEAST, 2}};
        for (int[] r : refused) {
            check.due("31: -13, from " + r[0] + " to " + r[1] + ", " + r[2], x.copy(0, r[0], 1, r[1], r[2]), -13);
        }
        check.due("31: all that fit", x.copy(0, 2, 1, 0, 2), 2);
        check.due("31: the last one", x.element(1, 1), 4);
        check.due("31: none", x.copy(0, 0, 1, 0, 0), 0);
        check.due("31: in one ROW, on", x.copy(0, 0, 0, 1, 3), 3);
        check.due("31: as they were", x.element(0, 3) * 100 + x.element(0, 2) * 10 + x.element(0, 1), 321);
        x.row(5, 0, 120);
        x.row(6, 0, 120);
        x.put(5, 119, 9);
        check.due("31: 120 elements", x.copy(5, 0, 6, 0, 120), 120);
        check.due("31: the 120th", x.element(6, 119), 9);
    }

    private static void promises32And33() {
        KitchenCards x = Check.with("p", "~p", "(pvp)");
        int[] efforts = {1, 2, 2, 3, 2, 0, 4};
        int[] tosses = {1, 1, 1, 101, 1, -15, 202};
        int[] wider = {2, 2, 2, 102, 2, -15, 202};
        for (int k = 0; k < 7; k++) {
            x.keep(0, 1, k, 0);
            check.due("32: of a LETTER, KIND " + k, x.effort(0), efforts[k]);
            check.due("33: -15, any of a LINE of one LETTER, KIND " + k, x.toss(0), -15);
            x.keep(0, 1, k, 1);
            check.due("33: of ~p, KIND " + k, x.toss(0), tosses[k]);
            x.keep(0, 1, k, 2);
            check.due("33: of (pvp), KIND " + k, x.toss(0), wider[k]);
        }
        for (int d : Check.NO_SHELF) {
            check.due("32: -1, shelf " + d, x.effort(d), -1);
            check.due("33: -1, shelf " + d, x.toss(d), -1);
        }
        check.due("32: -11", x.effort(1), -11);
        check.due("33: -11", x.toss(1), -11);
        for (int sort = 0; sort < 3; sort++) {
            x.row(1, sort, 0);
            check.due("32: -12 (a ROW)", x.effort(1), -12);
            check.due("33: -12 (a ROW)", x.toss(1), -12);
        }
        KitchenCards y = new KitchenCards();
        Check.lay(y, 7, "~p");
        while (y.line(7) >= 0) {
            y.count(0);
        }
        y.keep(0, 1, 3, 39);
        check.due("33: the last LINE's number, of a CHAIN 100 more", y.toss(0), 139);
        y.keep(0, 1, 6, 39);
        check.due("33: of a CHILD, its LEVELS in place of that", y.toss(0), 202);
    }
}

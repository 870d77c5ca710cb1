/** Promises 27 to 33: keep, row, put, element, copy, effort, toss. */
public final class ShelvesTest {
    private static final Check check = new Check("ShelvesTest");

    public static void main(String[] args) {
        keep();
        row();
        put();
        element();
        copy();
        copyRefusals();
        effort();
        toss();
        check.end();
    }

    private static void keep() {
        KitchenCards x = new KitchenCards();
        Check.line(x, "(p>q)");
        for (int d = 0; d < 8; d++) {
            check.due("a card on shelf " + d, x.keep(d, 1, 0, 0), 0);
        }
        check.due("shelf -1", x.keep(-1, 1, 0, 0), -1);
        check.due("shelf 8", x.keep(8, 1, 0, 0), -1);
        check.due("what -1", x.keep(0, -1, 0, 0), -1);
        check.due("what 2", x.keep(0, 2, 0, 0), -1);
        check.due("kind -1", x.keep(0, 1, -1, 0), -1);
        check.due("kind 7", x.keep(0, 1, 7, 0), -1);
        check.due("line -1", x.keep(0, 1, 0, -1), -1);
        check.due("line 1", x.keep(0, 1, 0, 1), -1);
        check.due("refused: the card is there still", x.effort(0), 3);
        check.due("nothing", x.keep(0, 0, 99, -99), 0);
        check.due("nothing is held", x.effort(0), -11);
        check.due("nothing on no shelf", x.keep(8, 0, 0, 0), -1);
        x.row(1, 0, 3);
        check.due("nothing in place of a row", x.keep(1, 0, 0, 0), 0);
        check.due("no row", x.put(1, 0, 0), -11);
        x.row(2, 0, 3);
        check.due("a card in place of a row", x.keep(2, 1, 5, 0), 0);
        check.due("no row there", x.put(2, 0, 0), -12);
        check.due("a card there", x.effort(2), 2);
    }

    private static void row() {
        KitchenCards x = new KitchenCards();
        check.due("shelf -1", x.row(-1, 0, 0), -1);
        check.due("shelf 8", x.row(8, 0, 0), -1);
        check.due("sort -1", x.row(0, -1, 0), -1);
        check.due("sort 3", x.row(0, 3, 0), -1);
        check.due("n 121", x.row(0, 0, 121), -1);
        check.due("n -1", x.row(0, 0, -1), -14);
        check.due("n least", x.row(0, 0, Integer.MIN_VALUE), -14);
        check.due("n most", x.row(0, 0, Integer.MAX_VALUE), -1);
        check.due("-1 is ahead of -14", x.row(0, 3, -1), -1);
        check.due("refused: nothing is held", x.put(0, 0, 0), -11);
        check.due("120", x.row(0, 2, 120), 0);
        for (int i = 0; i < 120; i += 7) {
            check.due("0 at first", x.element(0, i), 0);
            x.put(0, i, i + 1);
        }
        check.due("119", x.put(0, 119, 5), 0);
        check.due("120 isn't there", x.put(0, 120, 5), -13);
        check.due("a new row", x.row(0, 2, 120), 0);
        check.due("0 again", x.element(0, 119) + x.element(0, 7), 0);
        check.due("no elements", x.row(0, 0, 0), 0);
        check.due("none there", x.put(0, 0, 0), -13);
        Check.line(x, "p");
        x.keep(1, 1, 0, 0);
        check.due("a row in place of a card", x.row(1, 1, 2), 0);
        check.due("no card", x.toss(1), -12);
    }

    private static void put() {
        KitchenCards x = new KitchenCards();
        int[] told = {127, 128, 255, 256, -1, -129, 32767, 32768, 65536, -32769, Integer.MAX_VALUE, Integer.MIN_VALUE};
        for (int sort = 0; sort < 3; sort++) {
            x.row(sort, sort, told.length);
            for (int i = 0; i < told.length; i++) {
                check.due("put", x.put(sort, i, told[i]), 0);
            }
            for (int i = 0; i < told.length; i++) {
                int v = told[i];
                check.due("sort " + sort + " keeps of " + v, x.element(sort, i), sort == 0 ? (byte) v : sort == 1 ? (short) v : v);
            }
        }
        check.due("shelf -1", x.put(-1, 0, 0), -1);
        check.due("shelf 8", x.put(8, 0, 0), -1);
        check.due("nothing held", x.put(3, 0, 0), -11);
        check.due("nothing held, no place", x.put(3, -1, 0), -11);
        Check.line(x, "p");
        x.keep(3, 1, 0, 0);
        check.due("a card", x.put(3, 0, 0), -12);
        check.due("place -1", x.put(0, -1, 0), -13);
        check.due("place behind", x.put(0, told.length, 0), -13);
        check.due("place far behind", x.put(0, Integer.MAX_VALUE, 0), -13);
    }

    private static void element() {
        KitchenCards x = new KitchenCards();
        x.row(0, 2, 3);
        x.put(0, 2, -77);
        check.due("element", x.element(0, 2), -77);
        check.due("an element", Check.thrown(x, 0, 0), 0);
        check.due("shelf -1", Check.thrown(x, -1, 0), 1);
        check.due("shelf 8", Check.thrown(x, 8, 0), 1);
        check.due("shelf least", Check.thrown(x, Integer.MIN_VALUE, -1), 1);
        check.due("nothing", Check.thrown(x, 1, 0), 2);
        check.due("place -1", Check.thrown(x, 0, -1), 2);
        check.due("place 3", Check.thrown(x, 0, 3), 2);
        check.due("place most", Check.thrown(x, 0, Integer.MAX_VALUE), 2);
        Check.line(x, "p");
        x.keep(2, 1, 0, 0);
        check.due("a card", Check.thrown(x, 2, 0), 2);
    }

    private static void rows(KitchenCards x, int d, String what, int... due) {
        for (int i = 0; i < due.length; i++) {
            check.due(what + ", element " + i, x.element(d, i), due[i]);
        }
    }

    private static void copy() {
        KitchenCards x = new KitchenCards();
        Check.layBytes(x, 0, 1, 2, 3, 4, 5);
        Check.layBytes(x, 1, 6, 7, 8);
        check.due("copy", x.copy(0, 1, 1, 0, 2), 2);
        rows(x, 1, "two of them", 2, 3, 8);
        rows(x, 0, "there still", 1, 2, 3, 4, 5);
        check.due("in itself, on", x.copy(0, 0, 0, 1, 4), 4);
        rows(x, 0, "as they were, on", 1, 1, 2, 3, 4);
        check.due("in itself, back", x.copy(0, 2, 0, 0, 3), 3);
        rows(x, 0, "as they were, back", 2, 3, 4, 3, 4);
        check.due("all", x.copy(1, 0, 0, 2, 3), 3);
        rows(x, 0, "all of them", 2, 3, 2, 3, 8);
        check.due("none", x.copy(0, 5, 1, 3, 0), 0);
        check.due("none, from the first", x.copy(0, 0, 1, 0, 0), 0);
        x.row(2, 0, 0);
        check.due("none of none", x.copy(2, 0, 2, 0, 0), 0);
        for (int sort = 1; sort < 3; sort++) {
            x.row(3, sort, 2);
            x.row(4, sort, 2);
            x.put(3, 1, -30000);
            check.due("of sort " + sort, x.copy(3, 1, 4, 0, 1), 1);
            rows(x, 4, "of sort " + sort, -30000, 0);
        }
    }

    private static void copyRefusals() {
        KitchenCards x = new KitchenCards();
        Check.line(x, "p");
        Check.layBytes(x, 0, 1, 2, 3);
        Check.layBytes(x, 1, 4, 5);
        x.row(2, 1, 3);
        x.keep(3, 1, 0, 0);
        check.due("shelf -1", x.copy(-1, 0, 0, 0, 0), -1);
        check.due("to shelf 8", x.copy(0, 0, 8, 0, 0), -1);
        check.due("-1 is ahead of -11", x.copy(5, 0, 8, 0, 0), -1);
        check.due("nothing there", x.copy(5, 0, 0, 0, 0), -11);
        check.due("to nothing", x.copy(0, 0, 5, 0, 0), -11);
        check.due("-11 is ahead of -12", x.copy(3, 0, 5, 0, 0), -11);
        check.due("a card", x.copy(3, 0, 0, 0, 0), -12);
        check.due("to a card", x.copy(0, 0, 3, 0, 0), -12);
        check.due("other sorts", x.copy(0, 0, 2, 0, 1), -12);
        check.due("-12 is ahead of -13", x.copy(0, 0, 2, 0, -1), -12);
        int[][] places = {{-1, 0, 1}, {0, -1, 1}, {0, 0, -1}, {0, 0, 3}, {2, 0, 2}, {0, 1, 2}, {3, 0, 1}, {0, 2, 1}, {4, 0, 0}, {0, 3, 0},
            {Integer.MAX_VALUE, 0, 1}, {0, Integer.MAX_VALUE, 1}, {1, 0, Integer.MAX_VALUE}, {Integer.MIN_VALUE, 0, 0}, {0, 0, Integer.MIN_VALUE}};
        for (int[] p : places) {
            check.due("from " + p[0] + " to " + p[1] + ", " + p[2], x.copy(0, p[0], 1, p[1], p[2]), -13);
        }
        rows(x, 1, "refused", 4, 5);
    }

    private static void effort() {
        KitchenCards x = new KitchenCards();
        // 9 signs, 5 levels, 4 places, 3 unlike ones
        Check.line(x, "((pvq)>(~~rvp))");
        Check.line(x, "u");
        int[] due = {9, 13, 18, 23, 12, 8, 26};
        int[] dueLetter = {1, 2, 2, 3, 2, 0, 4};
        for (int k = 0; k < 7; k++) {
            x.keep(k, 1, k, 0);
            check.due("effort of kind " + k, x.effort(k), due[k]);
            x.keep(k, 1, k, 1);
            check.due("effort of a letter, kind " + k, x.effort(k), dueLetter[k]);
        }
        check.due("shelf -1", x.effort(-1), -1);
        check.due("shelf 8", x.effort(8), -1);
        x.keep(7, 0, 0, 0);
        check.due("nothing", x.effort(7), -11);
        x.row(7, 0, 1);
        check.due("a row", x.effort(7), -12);
    }

    private static void toss() {
        KitchenCards x = new KitchenCards();
        Check.line(x, "u");
        Check.line(x, "p");
        Check.line(x, "((pvq)>(~~rvp))");
        Check.line(x, "~p");
        int[] due = {2, 2, 2, 102, 2, -15, 205};
        int[] dueNot = {3, 3, 3, 103, 3, -15, 202};
        for (int k = 0; k < 7; k++) {
            x.keep(k, 1, k, 2);
            check.due("toss of kind " + k, x.toss(k), due[k]);
            check.due("again", x.toss(k), due[k]);
            x.keep(k, 1, k, 3);
            check.due("toss of ~p, kind " + k, x.toss(k), dueNot[k]);
            x.keep(k, 1, k, 1);
            check.due("toss of a letter, kind " + k, x.toss(k), -15);
        }
        check.due("shelf -1", x.toss(-1), -1);
        check.due("shelf 8", x.toss(8), -1);
        x.keep(7, 0, 0, 0);
        check.due("nothing", x.toss(7), -11);
        x.row(7, 0, 1);
        check.due("a row", x.toss(7), -12);
    }
}

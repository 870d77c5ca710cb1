/**
 * The sentences of promises 14 to 23, and of the terms they use, that name a boundary case:
 * each has a check of its own, named by the promise's number and the document's words.
 */
public final class EdgesOfRunsTest {
    private static final Check check = new Check("EdgesOfRunsTest");
    private static final int LEAST = Integer.MIN_VALUE;
    private static final int MOST = Integer.MAX_VALUE;

    public static void main(String[] args) {
        promise14();
        promise14Numbers();
        promise15();
        promise15Needs();
        promise15Wide();
        promise16();
        promise17();
        promise18();
        promise19();
        promise20();
        promise21();
        promise22();
        promise23();
        promise23Seeds();
        check.end();
    }

    private static void promise14() {
        KitchenCards x = new KitchenCards();
        for (int d : Check.NO_SHELF) {
            check.due("14: -1, shelf " + d, x.program(d), -1);
        }
        check.due("14: -11", x.program(0), -11);
        check.due("14: -100 less a FAULT: no bytes", Check.program(x, ""), -100);
        check.due("14: -100 less a FAULT: the 120th byte", Check.program(x, Check.times("m;", 59) + "m1"), -219);
        check.due("14: -100 less a FAULT: 120 bytes that end too early", Check.program(x, Check.times("m;", 59) + "k1"), -220);
        check.due("14: 120 bytes", Check.program(x, Check.times("m;", 60)), 0);
        for (int n = 1; n < 6; n++) {
            check.due("14: PROGRAMS 0 .. 5", Check.program(x, "l;"), n);
        }
        check.due("14: -2, a seventh", Check.program(x, "l;"), -2);
        check.due("14: -1 ahead of -2", x.program(-1), -1);
        check.due("14: -2 ahead of -11", x.program(0), -2);
        Check.line(x, "p");
        x.keep(0, 1, 0, 0);
        check.due("14: -2 ahead of -12", x.program(0), -2);
        check.due("14: -2 ahead of -100 less a FAULT", Check.program(x, "?"), -2);
        KitchenCards y = Check.with("p");
        y.keep(0, 1, 0, 0);
        check.due("14: -12, a card", y.program(0), -12);
        for (int sort = 1; sort < 3; sort++) {
            y.row(0, sort, 2);
            y.put(0, 0, 'm');
            y.put(0, 1, ';');
            check.due("14: -12, sort " + sort, y.program(0), -12);
        }
    }

    private static void promise14Numbers() {
        String[] fine = {"k1;", "k9;", "k10;", "k99;", "k100;", "k999;", "s1;", "s100;", "s101;", "s999;"};
        for (String text : fine) {
            check.due("14: 1 to 3 digits, " + text, Check.program(new KitchenCards(), text), 0);
        }
        String[] texts = {"k;", "k0;", "k00;", "k01;", "k1000;", "k1/;", "k1:;", "k/;", "k:;", "s;", "s0;", "s1000;", "k", "k1", "k123",
            "m;k", "m", "m;m", "l1;", "n;", "b;", "e;", "j;", "r;", "t;", ";"};
        int[] places = {1, 1, 1, 1, 4, 2, 2, 1, 1, 1, 1, 4, 1, 2, 4,
            3, 1, 3, 1, 0, 0, 0, 0, 0, 0, 0};
        for (int i = 0; i < texts.length; i++) {
            check.due("14: FAULT of " + texts[i], Check.program(new KitchenCards(), texts[i]), -100 - places[i]);
        }
    }

    private static void runs(String what, KitchenCards x, int program, int line, int... due) {
        for (int i = 0; i < due.length; i++) {
            check.due(what + ", run's what " + i, x.run(program, line, i), due[i]);
        }
    }

    private static void promise15() {
        KitchenCards x = Check.with("u", "(p>~q)", "(p>~~q)", "r");
        String[] texts = {Check.times("m;", 60), Check.times("m;", 57) + "s100;", Check.times("m;", 57) + "s101;",
            "m;m;s1;", "m;m;k2;", "m;m;k1;"};
        for (String text : texts) {
            Check.program(x, text);
        }
        runs("15: nothing is KNOWN", x, 0, 0, 0, 0, 1, -4, -4);
        x.give(1);
        x.give(2);
        runs("15: 60 ACTS if not told", x, 0, 0, 0, 60, 1, -4, -4);
        runs("15: 100 at most, told 100", x, 1, 0, 0, 100, 1, -4, -4);
        runs("15: 100 at most, told 101", x, 2, 0, 0, 100, 1, -4, -4);
        runs("15: one ACT", x, 3, 0, 0, 1, 1, -4, -4);
        runs("15: as many are tried as are KNOWN", x, 4, 0, 0, 4, 1, -4, -4);
        runs("15: one fewer", x, 5, 0, 0, 2, 1, -4, -4);
        check.due("15: -1, what -1", x.run(0, 0, -1), -1);
        check.due("15: -1, what 5", x.run(0, 0, 5), -1);
        check.due("15: -1, no program", x.run(6, 0, 0), -1);
        check.due("15: -1, program -1", x.run(-1, 0, 0), -1);
        check.due("15: -1, no line", x.run(0, 4, 0), -1);
        check.due("15: -1, line -1", x.run(0, -1, 0), -1);
        check.due("15: -3, it is GIVEN", x.run(0, 1, 0), -3);
        x.give(3);
        x.step(0, 0, 3, 0);
        check.due("15: -3, it is SHOWN", x.run(0, 0, 0), -3);
        check.due("15: -1 ahead of -3", x.run(6, 0, 0), -1);
        KitchenCards y = Check.with("(p>q)", "(q>r)", "(pvp)", "r");
        y.give(0);
        y.give(1);
        Check.program(y, "l;d;");
        // Y of both is LIKE r and q: r, q, p, and q again, that is there
        runs("15: back from r", y, 0, 3, 0, 6, 3, -4, -4);
        Check.program(y, "d;m;");
        y.give(2);
        runs("15: the last KNOWN one", y, 1, 3, 0, 15, 3, -4, -4);
    }

    private static void promise15Needs() {
        KitchenCards x = Check.with("u", "(p>p)");
        x.give(1);
        Check.program(x, "d;");
        runs("15: a NEED that is the LINE itself is there already", x, 0, 0, 0, 1, 1, -4, -4);
        KitchenCards y = Check.with("~~~p", "(" + Check.times("~", 9) + "p>~p)", Check.sixty());
        y.give(1);
        Check.program(y, "d;s1;");
        Check.program(y, "m;");
        // ~p is ~~~p with ~~p put: 9 ~ and ~~p
        check.same("15: a NEED", Check.need(y, 0, 0, 1), Check.times("~", 11) + "p");
        int twenty = Check.line(y, Check.times("~", 11) + "p");
        int more = Check.line(y, Check.times("~", 12) + "p");
        runs("15: a NEED of SIZE 20", y, 0, twenty, 0, 1, 2, -4, -4);
        runs("15: none of SIZE 21", y, 0, more, 0, 1, 1, -4, -4);
        runs("15: the LINE itself may be wider", y, 1, 2, 0, 1, 1, -4, -4);
        KitchenCards z = Check.with("q", "(~p>p)", "~~~r");
        z.give(1);
        Check.program(z, "d;s100;");
        Check.program(z, "m;d;");
        // q, ~q, .. 19 ~ and q
        runs("15: till no NEED fits", z, 0, 0, 0, 20, 20, -4, -4);
        z.give(2);
        // q: 2, and one of d; so are ~q, ~~q; ~~~q comes of the second one
        runs("15: DEPTH 3", z, 1, 0, 1, 3 * 3 + 2, 4, 3, 2);
    }

    /** "its SIZE is above 20" is said of what comes on the list: the LINE itself, the first NEED, may be as wide as a LINE can be. */
    private static void promise15Wide() {
        KitchenCards x = Check.with(Check.sixty(), Check.sixty());
        x.give(0);
        Check.program(x, "m;");
        runs("15: a LINE of 60 bytes comes of itself", x, 0, 1, 1, 1, 1, 0, 0);
        check.due("16: NEED 0 of 60 bytes, the last one", x.need(0, 1, 0, 59), ')');
        check.due("16: -4, behind the 60th", x.need(0, 1, 0, 60), -4);
        KitchenCards y = Check.with("((pvq)>s)", "(" + Check.wide(9, 9) + ">r)", "(" + Check.wide(9, 9) + ">(r>r))");
        y.give(0);
        Check.program(y, "c;");
        // (s>r), of SIZE 3, and (s>(pvq)) from that; with the A of 21 signs ahead none fits
        runs("15: NEEDS from a LINE of SIZE 23", y, 0, 1, 0, 6, 3, -4, -4);
        check.same("15: what comes on the list", Check.need(y, 0, 1, 1), "(s>r)");
        // and (pvq) by d
        check.due("18: a TREE of it", y.tree(1, 1), 3);
        Check.layBytes(y, 0, 1, 2);
        check.due("21: ORDERS of wide ones", y.order(0, 0, 1), 12);
    }

    private static void promise16() {
        KitchenCards x = Check.with("r", "(p>q)", "s");
        x.give(1);
        Check.program(x, "d;");
        Check.program(x, "m;d;");
        check.due("16: NEED 0", x.need(0, 0, 0, 0), 'r');
        check.due("16: -4, behind its end", x.need(0, 0, 0, 1), -4);
        check.due("16: NEED 1", x.need(0, 0, 1, 0), 'p');
        check.due("16: -4, no such NEED", x.need(0, 0, 2, 0), -4);
        check.due("16: -4, no 25th", x.need(0, 0, 24, 0), -4);
        check.due("16: -4, far off", x.need(0, 0, MOST, 0), -4);
        check.due("16: -1, i below 0", x.need(0, 0, -1, 0), -1);
        check.due("16: -1, j below 0", x.need(0, 0, 0, -1), -1);
        check.due("16: -1, no program", x.need(2, 0, 0, 0), -1);
        check.due("16: -1, no line", x.need(0, 3, 0, 0), -1);
        check.due("16: -3", x.need(0, 1, 0, 0), -3);
        check.due("16: -1 ahead of -3", x.need(0, 1, -1, 0), -1);
        x.give(2);
        // without a slip, though the seed 0 draws 0 first
        check.due("16: NEED 0 of a RUN that shows it", x.need(1, 0, 0, 0), 'r');
        KitchenCards y = Check.with("(p>q)", "(~p>p)");
        y.give(1);
        Check.program(y, "m;d;");
        int line = Check.line(y, "(~q>q)");
        check.due("16: it is SHOWN at once", y.run(0, line, 2), 1);
        check.due("16: -4, no NEED behind that", y.need(0, line, 1, 0), -4);
    }

    private static void promise17() {
        KitchenCards x = Check.with("(p>q)", "(r>s)", "(pvq)");
        Check.program(x, "m;");
        check.due("17: -4, nothing is KNOWN", x.show(0, 0), -4);
        x.give(0);
        check.due("17: -4, it isn't", x.show(0, 2), -4);
        check.due("17: nothing changes", x.of(2, 5), 0);
        check.due("17: nothing changes: from", x.from(2, 0), -3);
        check.due("17: ACTS", x.show(0, 1), 1);
        check.due("17: the LINE is SHOWN", x.of(1, 5), 2);
        check.due("17: -3, it is SHOWN", x.show(0, 1), -3);
        check.due("17: -3, it is GIVEN", x.show(0, 0), -3);
        check.due("17: -1, no program", x.show(1, 2), -1);
        check.due("17: -1, program -1", x.show(-1, 2), -1);
        check.due("17: -1, no line", x.show(0, 3), -1);
        check.due("17: -1, line -1", x.show(0, -1), -1);
        check.due("17: -1 ahead of -3", x.show(1, 0), -1);
        // the 60th ACT shows it, a 61st isn't done
        KitchenCards y = Check.with("u", "(p>~q)", "~~p", "r");
        y.give(1);
        y.give(2);
        Check.program(y, Check.times("m;", 29) + "m;s59;");
        Check.program(y, Check.times("m;", 30));
        check.due("17: 60 ACTS, not shown", y.run(1, 0, 1), 60);
        y.give(3);
        Check.program(y, "m;s2;");
        Check.program(y, "m;s3;");
        check.due("17: -4, the stop is ahead of the ACT", y.show(2, 0), -4);
        check.due("17: the last ACT shows it", y.show(3, 0), 3);
    }

    private static void promise18() {
        KitchenCards x = Check.with("q", "(~p>p)");
        check.due("18: nothing is KNOWN, DEPTH 9", x.tree(0, 9), 1);
        x.give(1);
        check.due("18: DEPTH 0", x.tree(0, 0), 1);
        check.due("18: DEPTH 1", x.tree(0, 1), 2);
        check.due("18: DEPTH 9", x.tree(0, 9), 10);
        check.due("18: -1, DEPTH 10", x.tree(0, 10), -1);
        check.due("18: -1, DEPTH -1", x.tree(0, -1), -1);
        check.due("18: -1, DEPTH most", x.tree(0, MOST), -1);
        check.due("18: -1, DEPTH least", x.tree(0, LEAST), -1);
        check.due("18: -1, no line", x.tree(2, 0), -1);
        check.due("18: -1, line -1", x.tree(-1, 0), -1);
        check.due("18: of a KNOWN one, too", x.tree(1, 0), 1);
        KitchenCards y = Check.with("u");
        for (int n = 0; n < 26; n++) {
            String nots = Check.times("~", n / 5);
            Check.given(y, "(" + nots + "pqrst".charAt(n % 5) + ">(pvp))");
        }
        int line = Check.line(y, "(qvq)");
        // p of X is put by q, and with as many ~ a q is there
        check.due("18: the list has room (5 of 26 are there already)", y.tree(line, 1), 1 + 26 - 5);
        KitchenCards z = new KitchenCards();
        for (int n = 0; n < 26; n++) {
            Check.given(z, "(" + Check.times("~", n / 5) + "pqrst".charAt(n % 5) + ">(uvu))");
        }
        check.due("18: the list has 24", z.tree(Check.line(z, "(pvp)"), 1), 24);
    }

    private static void promise19() {
        KitchenCards x = Check.with("(p>q)", "(~pvq)", "(r>r)");
        check.due("19: -4, none is GIVEN", x.height(0), -4);
        x.give(1);
        check.due("19: 0 if GIVEN", x.height(1), 0);
        check.due("19: 1 from a GIVEN one", x.height(0), 1);
        check.due("19: 2 from one that is SOUGHT", x.height(2), 2);
        check.due("19: -1, line 3", x.height(3), -1);
        check.due("19: -1, line -1", x.height(-1), -1);
        check.due("19: -1, line most", x.height(MOST), -1);
        KitchenCards y = Check.with("(pvq)", "(qvp)", "r");
        y.give(0);
        check.due("19: a GIVEN one that another would reach", y.height(0), 0);
        check.due("19: -4, none reach it", y.height(2), -4);
        y.give(1);
        check.due("19: GIVEN, and reached by a GIVEN one", y.height(1), 0);
        // each from the one ahead by one change, 39 times at the most: here six
        KitchenCards z = new KitchenCards();
        String tail = "q";
        for (int n = 0; n < 7; n++) {
            Check.line(z, Check.times("(p>", 6 - n) + Check.times("(~pv", n) + tail + Check.times(")", 6));
        }
        z.give(6);
        check.due("19: six changes", z.height(0), 6);
    }

    private static void promise20() {
        KitchenCards x = new KitchenCards();
        check.due("20: no LINES", x.never(), 0);
        Check.lay(x, 0, "p");
        for (int n = 0; n < 40; n++) {
            x.line(0);
        }
        check.due("20: all 40", x.never(), (1L << 40) - 1);
        for (int n = 0; n < 39; n++) {
            x.give(n);
        }
        check.due("20: the 40th alone", x.never(), 1L << 39);
        x.step(39, 0, 0, 0);
        check.due("20: a SHOWN one isn't", x.never(), 0);
        KitchenCards y = Check.with("(p>p)", "(p>~p)", "~(p>p)");
        check.due("20: a TRUE one isn't", y.never(), 2 + 4);
    }

    /** Nothing is KNOWN but line 0; lines 1, 2 and 4 come of it, 3 doesn't. */
    private static KitchenCards problems() {
        KitchenCards x = Check.with("(p>q)", "(q>p)", "(~p>q)", "(pvq)", "(q>q)");
        x.give(0);
        Check.program(x, "m;");
        return x;
    }

    private static void promise21() {
        KitchenCards x = problems();
        int[][] rows = {{}, {1, 2, 3, 4}, {0}, {1, 0}, {1, 1}, {1, 2, 1}, {5}, {40}, {-1}, {127}, {-128}};
        for (int[] row : rows) {
            Check.layBytes(x, 0, row);
            check.due("21: -13, not 1 .. 3 unlike SOUGHT ones", x.order(0, 0, 0), -13);
        }
        int[][] fine = {{1}, {1, 3}, {1, 2, 4}};
        int[] shown = {1, 1, 3};
        int[] acts = {1, 1 + 2, 1 + 1 + 1};
        for (int i = 0; i < fine.length; i++) {
            Check.layBytes(x, 0, fine[i]);
            check.due("21: SHOWN of " + fine[i].length, x.order(0, 0, 0), shown[i]);
            check.due("21: ACTS of " + fine[i].length, x.order(0, 0, 1), acts[i]);
        }
        check.due("21: -1, what -1", x.order(0, 0, -1), -1);
        check.due("21: -1, what 2", x.order(0, 0, 2), -1);
        check.due("21: -1, no program", x.order(1, 0, 0), -1);
        for (int d : Check.NO_SHELF) {
            check.due("21: -1, shelf " + d, x.order(0, d, 0), -1);
        }
        check.due("21: -11", x.order(0, 1, 0), -11);
        x.keep(1, 1, 0, 0);
        check.due("21: -12, a card", x.order(0, 1, 0), -12);
        x.row(1, 1, 1);
        x.put(1, 0, 1);
        check.due("21: -12, shorts", x.order(0, 1, 0), -12);
        x.put(0, 1, 3);
        check.due("21: the ROW as it stands", x.order(0, 0, 0), 2);
        x.bestOrder(0, 0, 2);
        check.due("21: as it stands, behind a best order", x.order(0, 0, 1), 1 + 2 + 1);
        x.give(4);
        check.due("21: -13, one that is GIVEN by now", x.order(0, 0, 0), -13);
    }

    private static void promise22() {
        KitchenCards x = problems();
        int[][] rows = {{}, {1, 2, 3, 4}, {0}, {1, 1}, {5}, {-1}, {1, 2, 0}};
        for (int[] row : rows) {
            Check.layBytes(x, 0, row);
            for (int what = 0; what < 3; what++) {
                check.due("22: -13, not 1 .. 3 unlike SOUGHT ones", x.bestOrder(0, 0, what), -13);
            }
        }
        Check.layBytes(x, 0, 3);
        check.due("22: none is SHOWN", x.bestOrder(0, 0, 0), 0);
        check.due("22: ACTS where none is SHOWN", x.bestOrder(0, 0, 1), 1);
        check.due("22: the one place", x.bestOrder(0, 0, 2), 0);
        Check.layBytes(x, 0, 1, 2, 4);
        check.due("22: three SHOWN", x.bestOrder(0, 0, 0), 3);
        check.due("22: the first by places of the ROW, of those that are as good", x.bestOrder(0, 0, 2), 8 + 2 * 64);
        // 3 runs on one line more for each that was SHOWN ahead
        Check.layBytes(x, 0, 1, 2, 3);
        check.due("22: the fewest ACTS", x.bestOrder(0, 0, 1), 1 + 1 + 1);
        check.due("22: with the one ahead that isn't SHOWN", x.bestOrder(0, 0, 2), 2 + 0 * 8 + 64);
        check.due("22: -1, what -1", x.bestOrder(0, 0, -1), -1);
        check.due("22: -1, what 3", x.bestOrder(0, 0, 3), -1);
        check.due("22: -1, no program", x.bestOrder(-1, 0, 0), -1);
        for (int d : Check.NO_SHELF) {
            check.due("22: -1, shelf " + d, x.bestOrder(0, d, 0), -1);
        }
        check.due("22: -11", x.bestOrder(0, 1, 0), -11);
        x.keep(1, 1, 0, 1);
        check.due("22: -12, a card", x.bestOrder(0, 1, 0), -12);
        x.row(1, 2, 1);
        check.due("22: -12, ints", x.bestOrder(0, 1, 0), -12);
        check.due("22: -1 ahead of -12", x.bestOrder(0, 1, 3), -1);
    }

    private static void promise23() {
        KitchenCards x = problems();
        int[] none = {-1, 101, LEAST, MOST};
        for (int odds : none) {
            check.due("23: -1, ODDS " + odds, x.slips(0, 1, 0, odds, 0), -1);
        }
        check.due("23: -1, what -1", x.slips(0, 1, 0, 0, -1), -1);
        check.due("23: -1, what 4", x.slips(0, 1, 0, 0, 4), -1);
        check.due("23: -1, no program", x.slips(1, 1, 0, 0, 0), -1);
        check.due("23: -1, no line", x.slips(0, 5, 0, 0, 0), -1);
        check.due("23: -3, it isn't SOUGHT", x.slips(0, 0, 0, 0, 0), -3);
        check.due("23: -1 ahead of -3", x.slips(0, 0, 0, 101, 0), -1);
        int[] seeds = {0, 1, -1, LEAST, MOST};
        for (int z : seeds) {
            int[] due0 = {1, 1, 0, 0};
            int[] due100 = {0, 1, 0, 1};
            int[] other0 = {0, 1, 0, 0};
            int[] other100 = {0, 1, 1, 0};
            for (int what = 0; what < 4; what++) {
                check.due("23: ODDS 0, never the other way", x.slips(0, 1, z, 0, what), due0[what]);
                check.due("23: ODDS 100, always the other way", x.slips(0, 1, z, 100, what), due100[what]);
                check.due("23: ODDS 0, where it doesn't come", x.slips(0, 3, z, 0, what), other0[what]);
                check.due("23: ODDS 100, where it doesn't come", x.slips(0, 3, z, 100, what), other100[what]);
            }
        }
    }

    /** Seeds that become told numbers by the one ACT, as what they draw shows (z is an int, it wraps around). */
    private static void promise23Seeds() {
        KitchenCards x = problems();
        // become 0, 65535, 65536, 6553599, 6553600, the most, -1, the least, the least and 65535, the least and 65536
        int[] seeds = {-59267453, -115164386, -404969853, 20036382, -269769085, -1916945634, 230538014, 2088216195, 2032319262, 1742513795};
        int[] draws = {0, 0, 1, 99, 0, 67, 67, 0, 0, 1};
        for (int i = 0; i < seeds.length; i++) {
            check.due("23: not below ODDS, seed " + seeds[i], x.slips(0, 3, seeds[i], draws[i], 2), 0);
            check.due("23: below ODDS, seed " + seeds[i], x.slips(0, 3, seeds[i], draws[i] + 1, 2), 1);
            check.due("23: a SLIP that isn't seen, seed " + seeds[i], x.slips(0, 1, seeds[i], draws[i] + 1, 3), 1);
        }
    }
}

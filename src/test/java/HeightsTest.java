/** Promises 19 to 23: height, never, order, bestOrder, slips. */
public final class HeightsTest {
    private static final Check check = new Check("HeightsTest");

    public static void main(String[] args) {
        height();
        then();
        byTheFirst();
        higherOfTwo();
        runsHaveNone();
        ladder();
        never();
        order();
        bestOrder();
        orderRefusals();
        slips();
        slipsAreOfMatchesAlone();
        slipsRefusals();
        check.end();
    }

    private static void heights(KitchenCards x, String what, int... due) {
        for (int n = 0; n < due.length; n++) {
            check.due(what + ": height " + n, x.height(n), due[n]);
        }
    }

    private static void height() {
        KitchenCards x = new KitchenCards();
        Check.given(x, "(p>(qvp))");
        Check.line(x, "(~pv(qvp))");
        Check.line(x, "(~~rv(~sv~r))");
        Check.line(x, "(~r>(~sv~r))");
        Check.line(x, "(~r>(s>~r))");
        Check.line(x, "(~r>s)");
        Check.line(x, "((s>~r)>t)");
        Check.line(x, "(~r>t)");
        heights(x, "putting and meaning", 0, 1, 2, 1, 2, -4, -4, -4);
        x.give(6);
        check.due("1 more than the higher of two", x.height(7), 3);
        x.give(4);
        check.due("a given one", x.height(4), 0);
        check.due("from two given ones", x.height(7), 1);
        check.due("height(-1)", x.height(-1), -1);
        check.due("height(8)", x.height(8), -1);
        check.due("no lines", new KitchenCards().height(0), -1);
    }

    private static void then() {
        KitchenCards x = new KitchenCards();
        Check.line(x, "q");
        Check.given(x, "(svs)");
        Check.given(x, "((tvu)>q)");
        Check.line(x, "(tvu)");
        heights(x, "half of it", -4, 0, 0, -4);
        Check.given(x, "((svs)>(tvu))");
        heights(x, "this, if this then that", 2, 0, 0, 1, 0);
    }

    /** b of a step is line 0. */
    private static void byTheFirst() {
        KitchenCards x = new KitchenCards();
        Check.given(x, "((svs)>(tvu))");
        Check.given(x, "(svs)");
        Check.line(x, "(tvu)");
        heights(x, "this, if this then that, the other way round", 0, 0, 1);
    }

    private static void higherOfTwo() {
        KitchenCards x = new KitchenCards();
        Check.given(x, "(~(pvp)v~(r>t))");
        Check.line(x, "((pvp)>~(r>t))");
        Check.given(x, "(~(r>t)>(svt))");
        Check.line(x, "((pvp)>(svt))");
        Check.line(x, "(svt)");
        Check.given(x, "(pvp)");
        Check.line(x, "~(r>t)");
        heights(x, "chain", 0, 1, 0, 2, 3, 0, 2);
    }

    private static void runsHaveNone() {
        KitchenCards x = new KitchenCards();
        Check.given(x, "((pvq)>(qvp))");
        Check.given(x, "(~svr)");
        Check.line(x, "(pv~q)");
        Check.program(x, "m;d;");
        check.due("shown by a run", x.show(0, 2), 5);
        check.due("a shown line that no steps reach", x.height(2), -4);
        Check.line(x, "(rv~s)");
        check.due("nor from a shown one", x.height(3), -4);
        Check.line(x, "((~svr)>(rv~s))");
        heights(x, "by sought ones", 0, 0, 3, 2, 1);
    }

    /** Lines each from the one ahead by one change. */
    private static void ladder() {
        KitchenCards y = new KitchenCards();
        String[] ifs = {"(p>(p>(p>(p>q))))", "(p>(p>(p>(~pvq))))", "(p>(p>(~pv(~pvq))))", "(p>(~pv(~pv(~pvq))))", "(~pv(~pv(~pv(~pvq))))"};
        for (int n = ifs.length - 1; n >= 0; n--) {
            Check.line(y, ifs[n]);
        }
        y.give(4);
        heights(y, "change by change", 4, 3, 2, 1, 0);
        KitchenCards z = new KitchenCards();
        for (String text : ifs) {
            Check.line(z, text);
        }
        z.give(4);
        heights(z, "and back", 4, 3, 2, 1, 0);
    }

    private static void never() {
        KitchenCards x = new KitchenCards();
        Check.line(x, "p");
        Check.line(x, "(p>p)");
        Check.line(x, "~(p>p)");
        check.due("never", x.never(), 5);
        x.give(0);
        check.due("a given one isn't sought", x.never(), 4);
        Check.line(x, "q");
        check.due("sought", x.never(), 12);
        x.step(3, 0, 0, 0);
        check.due("a shown one isn't", x.never(), 4);
        while (x.count(0) < 40) {
            Check.line(x, "(p>q)");
        }
        check.due("40 lines", x.never(), ((1L << 40) - 1) & ~0b1011L);
    }

    /** Line 2 takes 5 acts; so does 3 by itself, but fewer behind 2; 4 isn't shown; 5 takes one. */
    private static KitchenCards problems() {
        KitchenCards x = new KitchenCards();
        Check.given(x, "((pvq)>(qvp))");
        Check.given(x, "(~svr)");
        Check.line(x, "(pv~q)");
        Check.line(x, "(rv~~s)");
        Check.line(x, "s");
        Check.line(x, "((svt)>(tvs))");
        Check.program(x, "m;d;");
        Check.program(x, "m;d;k2;");
        Check.program(x, "m;");
        return x;
    }

    private static void orders(KitchenCards x, int program, int shown, int acts, int... row) {
        Check.layBytes(x, 0, row);
        check.due("order by " + program + " of " + row.length + ", shown", x.order(program, 0, 0), shown);
        check.due("order by " + program + " of " + row.length + ", acts", x.order(program, 0, 1), acts);
    }

    private static void order() {
        KitchenCards x = problems();
        orders(x, 0, 1, 5, 2);
        orders(x, 0, 1, 5, 3);
        orders(x, 0, 0, 3, 4);
        orders(x, 0, 1, 1, 5);
        orders(x, 0, 2, 5 + 3, 2, 3);
        orders(x, 0, 2, 5 + 6, 3, 2);
        orders(x, 1, 2, 5 + 2, 2, 3);
        orders(x, 1, 1, 5 + 2, 3, 2);
        orders(x, 0, 2, 5 + 4 + 3, 2, 4, 3);
        orders(x, 0, 2, 3 + 5 + 3, 4, 2, 3);
        orders(x, 2, 0, 2 + 2, 2, 3);
        orders(x, 2, 1, 2 + 1 + 3, 2, 5, 3);
        x.slips(0, 2, 1, 100, 0);
        orders(x, 0, 1, 5, 2);
        check.due("in mind alone", x.count(2), 0);
        check.due("they are sought still", x.of(2, 5), 0);
        check.due("and run as ever", x.run(0, 3, 1), 5);
    }

    private static void best(KitchenCards x, int program, int shown, int acts, int places, int... row) {
        Check.layBytes(x, 0, row);
        String what = "best order by " + program + " of " + row.length;
        check.due(what + ", shown", x.bestOrder(program, 0, 0), shown);
        check.due(what + ", acts", x.bestOrder(program, 0, 1), acts);
        check.due(what + ", places", x.bestOrder(program, 0, 2), places);
    }

    private static void bestOrder() {
        KitchenCards x = problems();
        best(x, 0, 1, 5, 0, 3);
        best(x, 0, 0, 3, 0, 4);
        best(x, 0, 2, 8, 8, 2, 3);
        best(x, 0, 2, 8, 1, 3, 2);
        best(x, 1, 2, 7, 8, 2, 3);
        best(x, 1, 2, 7, 1, 3, 2);
        best(x, 0, 2, 11, 2 + 8, 3, 2, 4);
        best(x, 0, 2, 11, 1 + 2 * 8, 3, 4, 2);
        best(x, 0, 2, 11, 8 + 2 * 64, 4, 2, 3);
        best(x, 2, 0, 6, 8 + 2 * 64, 2, 3, 4);
        best(x, 2, 1, 2 + 2 + 1, 2 * 8 + 64, 2, 5, 3);
        check.due("in mind alone", x.count(2), 0);
    }

    private static void orderRefusals() {
        KitchenCards x = problems();
        Check.layBytes(x, 0, 2, 3);
        check.due("order: no program", x.order(3, 0, 0), -1);
        check.due("order: program -1", x.order(-1, 0, 0), -1);
        check.due("order: no shelf", x.order(0, 8, 0), -1);
        check.due("order: shelf -1", x.order(0, -1, 0), -1);
        check.due("order: what -1", x.order(0, 0, -1), -1);
        check.due("order: what 2", x.order(0, 0, 2), -1);
        check.due("best: no program", x.bestOrder(3, 0, 0), -1);
        check.due("best: no shelf", x.bestOrder(0, 8, 0), -1);
        check.due("best: what -1", x.bestOrder(0, 0, -1), -1);
        check.due("best: what 3", x.bestOrder(0, 0, 3), -1);
        check.due("-1 is ahead of -11", x.order(0, 1, 2), -1);
        both(x, 1, -11, "nothing is held");
        x.keep(1, 1, 0, 0);
        both(x, 1, -12, "a card");
        x.row(1, 1, 1);
        both(x, 1, -12, "shorts");
        x.row(1, 2, 1);
        both(x, 1, -12, "ints");
        int[][] rows = {{}, {2, 3, 4, 5}, {0}, {2, 0}, {2, 2}, {2, 3, 2}, {6}, {-1}, {2, 3, 99}, {5, 4, 4}};
        for (int[] row : rows) {
            Check.layBytes(x, 1, row);
            both(x, 1, -13, "a row of " + row.length);
        }
        x.give(2);
        both(x, 0, -13, "one that is given by now");
    }

    private static void both(KitchenCards x, int d, int due, String what) {
        check.due("order: " + what, x.order(0, d, 0), due);
        check.due("best: " + what, x.bestOrder(0, d, 2), due);
    }

    private static void slips(KitchenCards x, int program, int line, int z, int odds, int... due) {
        for (int what = 0; what < due.length; what++) {
            check.due("slips(" + program + ", " + line + ", " + z + ", " + odds + ", " + what + ")",
                x.slips(program, line, z, odds, what), due[what]);
        }
    }

    /** From 1 the seeds give 38, 58, 13, 15, 51, 27, 10, as z over 65536 is 16838, 5758, 10113, 17515, 31051, 5627, 23010. */
    private static void slips() {
        KitchenCards x = new KitchenCards();
        Check.given(x, "(pvp)");
        Check.given(x, "(p>p)");
        Check.given(x, "~p");
        int line = Check.line(x, "(qvq)");
        int other = Check.line(x, "(qvr)");
        Check.program(x, "m;");
        Check.program(x, "m;m;");
        slips(x, 0, line, 1, 0, 1, 1, 0, 0);
        slips(x, 0, line, 1, 38, 1, 1, 0, 0);
        slips(x, 0, line, 1, 39, 0, 3, 1, 1);
        slips(x, 0, line, 1, 58, 0, 3, 1, 1);
        slips(x, 0, line, 1, 59, 0, 3, 2, 1);
        slips(x, 1, line, 1, 39, 0, 6, 2, 2);
        slips(x, 1, line, 1, 100, 0, 6, 4, 2);
        slips(x, 1, other, 1, 39, 0, 6, 4, 0);
        slips(x, 1, other, 1, 14, 0, 6, 1, 0);
        slips(x, 1, other, 1, 13, 0, 6, 0, 0);
        slips(x, 1, other, 1, 0, 0, 6, 0, 0);
        // -1 becomes -1103502900, without its sign's bit 1043980748: 15929, and 29
        slips(x, 0, line, -1, 29, 1, 1, 0, 0);
        slips(x, 0, line, -1, 30, 0, 3);
        check.due("nothing is shown", x.count(2), 0);
    }

    private static void slipsAreOfMatchesAlone() {
        KitchenCards x = new KitchenCards();
        Check.given(x, "(p>~(q>r))");
        Check.given(x, "(pvp)");
        int line = Check.line(x, "(qvq)");
        Check.program(x, "d;c;m;");
        Check.program(x, "d;c;m;l;");
        // d is one act; m of the first draws 38, that of the second 58
        slips(x, 0, line, 1, 39, 1, 3, 1, 0);
        slips(x, 0, line, 1, 59, 0, 3, 1, 1);
        // an act that is left draws nothing: the second draws 38
        slips(x, 1, line, 1, 38, 1, 1, 0, 0);
        slips(x, 1, line, 1, 39, 0, 1, 0, 1);
    }

    private static void slipsRefusals() {
        KitchenCards x = new KitchenCards();
        Check.given(x, "p");
        Check.line(x, "q");
        Check.program(x, "m;");
        check.due("no program", x.slips(1, 1, 0, 0, 0), -1);
        check.due("no line", x.slips(0, 2, 0, 0, 0), -1);
        check.due("odds -1", x.slips(0, 1, 0, -1, 0), -1);
        check.due("odds 101", x.slips(0, 1, 0, 101, 0), -1);
        check.due("what -1", x.slips(0, 1, 0, 0, -1), -1);
        check.due("what 4", x.slips(0, 1, 0, 0, 4), -1);
        check.due("a known one", x.slips(0, 0, 0, 0, 0), -3);
        check.due("-1 is ahead of -3", x.slips(0, 0, 0, 101, 0), -1);
    }
}

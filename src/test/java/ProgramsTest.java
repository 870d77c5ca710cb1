/** Promises 14 to 18: program, run, need, show, tree. */
public final class ProgramsTest {
    private static final Check check = new Check("ProgramsTest");

    public static void main(String[] args) {
        program();
        match();
        back();
        chains();
        order();
        stops();
        last();
        likeAlone();
        sizeOfNeeds();
        mostNeeds();
        refusals();
        show();
        tree();
        check.end();
    }

    private static void program() {
        String[] texts = {"m;", "m;d;c;l;", "k1;", "k999;s1;", "s100;", "s999;", "k10;", "m;m;m;k3;k2;s5;s6;l;l;", "l;"};
        for (String text : texts) {
            check.due("program " + text, Check.program(new KitchenCards(), text), 0);
        }
        String[] faulty = {"", "m", "m;d", "x", ";", "m;;", "m1;", "k", "k;", "k0;", "k01;", "s0", "s00;", "k1", "k12", "k1x", "k1000;",
            "m;s;", "l2;", "M;", "m d;", "k-1;", "k 1;", "m;k12m;", "k100"};
        int[] places = {0, 1, 3, 0, 0, 2, 1, 1, 1, 1, 1, 1, 1, 2, 3, 2, 4,
            3, 1, 0, 1, 1, 1, 5, 4};
        for (int i = 0; i < faulty.length; i++) {
            check.due("program " + faulty[i], Check.program(new KitchenCards(), faulty[i]), -100 - places[i]);
        }
        KitchenCards x = new KitchenCards();
        check.due("program(-1)", x.program(-1), -1);
        check.due("program(8)", x.program(8), -1);
        check.due("program of nothing", x.program(0), -11);
        Check.line(x, "p");
        x.keep(0, 1, 0, 0);
        check.due("program of a card", x.program(0), -12);
        x.row(0, 1, 2);
        check.due("program of shorts", x.program(0), -12);
        check.due("120 bytes", Check.program(x, Check.times("m;", 60)), 0);
        check.due("an empty text", Check.program(x, ""), -100);
        check.due("refused ones are none", x.count(3), 1);
        for (int n = 1; n < 6; n++) {
            check.due("program " + n, Check.program(x, "d;"), n);
        }
        check.due("no room", Check.program(x, "d;"), -2);
        check.due("no room is ahead of -11", x.program(1), -2);
        check.due("no room is ahead of -12", x.program(0), -2);
        check.due("no room is ahead of a fault", Check.program(x, "x"), -2);
        check.due("no room is ahead of an empty text", Check.program(x, ""), -2);
        check.due("-1 is ahead of no room", x.program(8), -1);
    }

    /** All that run tells, of program 0 on a line. */
    private static void run(KitchenCards x, int program, int line, int... due) {
        for (int what = 0; what < due.length; what++) {
            check.due("run(" + program + ", " + line + ", " + what + ")", x.run(program, line, what), due[what]);
        }
    }

    private static void match() {
        KitchenCards x = new KitchenCards();
        Check.given(x, "(pvp)");
        Check.given(x, "(p>q)");
        Check.given(x, "p");
        Check.program(x, "m;");
        run(x, 0, Check.line(x, "(~r>s)"), 1, 2, 1, 0, 1);
        run(x, 0, Check.line(x, "((r>s)v(r>s))"), 1, 1, 1, 0, 0);
        run(x, 0, Check.line(x, "~r"), 1, 3, 1, 0, 2);
        KitchenCards y = new KitchenCards();
        Check.program(y, "m;m;");
        run(y, 0, Check.line(y, "p"), 0, 0, 1, -4, -4);
        Check.given(y, "(pvp)");
        run(y, 0, 0, 0, 2, 1, -4, -4);
        check.due("lines stay sought", y.of(0, 5), 0);
        Check.program(y, "l;k3;s9;");
        run(y, 1, 0, 0, 0, 1, -4, -4);
        Check.program(y, "l;");
        run(y, 2, 0, 0, 0, 1, -4, -4);
    }

    private static void back() {
        KitchenCards x = new KitchenCards();
        Check.given(x, "((pvq)>(qvp))");
        Check.given(x, "(rvr)");
        Check.given(x, "(~svr)");
        Check.program(x, "m;d;");
        // (pv~q) of (qvp): (~qvp) is a need more, that comes of the third
        int line = Check.line(x, "(pv~q)");
        run(x, 0, line, 1, 7, 2, 1, 2);
        check.same("need 0", Check.need(x, 0, line, 0), "(pv~q)");
        check.same("need 1", Check.need(x, 0, line, 1), "(~qvp)");
        check.due("behind its end", x.need(0, line, 1, 6), -4);
        check.due("no such need", x.need(0, line, 2, 0), -4);
        // letters of X that aren't in Y stay
        KitchenCards y = new KitchenCards();
        Check.given(y, "((p>q)>p)");
        Check.program(y, "d;s1;");
        int other = Check.line(y, "(q>u)");
        run(y, 0, other, 0, 1, 2, -4, -4);
        check.same("a letter stays", Check.need(y, 0, other, 1), "((q>u)>q)");
    }

    private static void chains() {
        KitchenCards x = new KitchenCards();
        Check.given(x, "(p>(pvq))");
        Check.program(x, "c;s2;");
        int line = Check.line(x, "(~r>(svt))");
        // A comes of p: ((~rvq)>(svt)); C comes of (pvq): (~r>s)
        run(x, 0, line, 0, 2, 3, -4, -4);
        check.same("ahead", Check.need(x, 0, line, 1), "((~rvq)>(svt))");
        check.same("behind", Check.need(x, 0, line, 2), "(~r>s)");
        Check.program(x, "c;s1;");
        run(x, 1, line, 0, 1, 2, -4, -4);
        int or = Check.line(x, "(pvp)");
        run(x, 0, or, 0, 0, 1, -4, -4);
        KitchenCards y = new KitchenCards();
        Check.given(y, "(pvq)");
        Check.given(y, "~p");
        Check.program(y, "d;c;");
        run(y, 0, Check.line(y, "(p>q)"), 0, 0, 1, -4, -4);
        KitchenCards z = new KitchenCards();
        Check.given(z, "(~p>q)");
        Check.program(z, "c;");
        // A doesn't come of ~p, C does of q: (p>~p) is a need more, and there already the next time
        int last = Check.line(z, "(p>s)");
        run(z, 0, last, 0, 4, 2, -4, -4);
        check.same("behind, with a letter that stays", Check.need(z, 0, last, 1), "(p>~p)");
        check.due("the same need comes once", once(), 2);
    }

    private static int once() {
        KitchenCards x = new KitchenCards();
        Check.given(x, "(p>q)");
        Check.given(x, "(r>s)");
        Check.program(x, "d;s2;");
        // both give a letter: p and r
        int line = Check.line(x, "u");
        check.due("two unlike needs", x.run(0, line, 2), 3);
        KitchenCards y = new KitchenCards();
        Check.given(y, "(p>q)");
        Check.given(y, "(p>r)");
        Check.program(y, "d;s2;");
        return y.run(0, Check.line(y, "u"), 2);
    }

    /** Statements in their order, for each need; known ones in the order in which they became known. */
    private static void order() {
        KitchenCards x = new KitchenCards();
        Check.line(x, "(p>q)");
        Check.line(x, "(r>s)");
        Check.line(x, "u");
        x.give(1);
        x.give(0);
        Check.program(x, "d;m;");
        Check.program(x, "m;d;");
        Check.program(x, "m;d;m;s5;");
        // u comes of neither; back gives r of the first, p of the second
        run(x, 0, 2, 0, 12, 3, -4, -4);
        check.same("of the one known first", Check.need(x, 0, 2, 1), "r");
        check.same("of the one known then", Check.need(x, 0, 2, 2), "p");
        run(x, 1, 2, 0, 12, 3, -4, -4);
        run(x, 2, 2, 0, 5, 3, -4, -4);
        int line = Check.line(x, "(~p>~p)");
        run(x, 0, line, 1, 3, 3, 0, 1);
        run(x, 1, line, 1, 1, 1, 0, 1);
    }

    private static void stops() {
        KitchenCards x = new KitchenCards();
        Check.given(x, "(p>~q)");
        Check.given(x, "(r>~s)");
        int[] due = {60, 1, 59, 61, 99, 100, 100, 100, 7};
        String[] ends = {"", "s1;", "s59;", "s61;", "s99;", "s100;", "s101;", "s999;", "s5;s7;"};
        int line = Check.line(x, "u");
        for (int i = 0; i < ends.length; i++) {
            KitchenCards y = new KitchenCards();
            Check.given(y, "(p>~q)");
            Check.given(y, "(r>~s)");
            Check.program(y, Check.times("m;", 57 - ends[i].length() / 2) + ends[i]);
            check.due("acts with " + ends[i], y.run(0, Check.line(y, "u"), 1), due[i]);
        }
        // the stop is met by the very act that shows it
        Check.program(x, "m;s2;");
        Check.program(x, "s1;m;");
        int second = Check.line(x, "(u>~p)");
        run(x, 0, second, 1, 1, 1, 0, 0);
        run(x, 0, line, 0, 2, 1, -4, -4);
        Check.given(x, "u");
        Check.program(x, "m;s3;");
        run(x, 0, line, 0, 2, 1, -4, -4);
        run(x, 2, line, 1, 3, 1, 0, 4);
        run(x, 1, second, 1, 1, 1, 0, 0);
    }

    private static void last() {
        KitchenCards x = new KitchenCards();
        Check.given(x, "(p>q)");
        Check.given(x, "(pvq)");
        Check.given(x, "~p");
        int line = Check.line(x, "(s>t)");
        String[] texts = {"m;", "m;k3;", "m;k2;", "k1;m;", "k1;m;k999;", "k3;k1;m;"};
        int[] shown = {1, 1, 0, 0, 1, 0};
        int[] acts = {1, 1, 2, 1, 1, 1};
        for (int i = 0; i < texts.length; i++) {
            Check.program(x, texts[i]);
            run(x, i, line, shown[i], acts[i]);
        }
    }

    private static void likeAlone() {
        KitchenCards x = new KitchenCards();
        Check.given(x, "p");
        Check.given(x, "(p>q)");
        Check.given(x, "((pvq)>(qvp))");
        Check.program(x, "l;m;");
        Check.program(x, "m;l;d;");
        Check.program(x, "c;l;");
        // like (p>q) alone
        run(x, 0, Check.line(x, "(s>t)"), 1, 1, 1, 0, 1);
        run(x, 0, Check.line(x, "(s>s)"), 0, 0, 1, -4, -4);
        run(x, 0, Check.line(x, "(svt)"), 0, 1, 1, -4, -4);
        // back: like (qvp) alone
        int or = Check.line(x, "(svt)");
        run(x, 1, or, 0, 4, 2, -4, -4);
        check.same("its need", Check.need(x, 1, or, 1), "(tvs)");
        // chains: A like X and C like Y
        int line = Check.line(x, "((svt)>u)");
        // two acts of each of ((svt)>u), ((svt)>p), ((tvs)>u), ((tvs)>p)
        run(x, 2, line, 0, 8, 4, -4, -4);
        check.same("A is like (pvq)", Check.need(x, 2, line, 2), "((tvs)>u)");
        check.same("C is like q", Check.need(x, 2, line, 1), "((svt)>p)");
        check.same("both", Check.need(x, 2, line, 3), "((tvs)>p)");
    }

    private static void sizeOfNeeds() {
        // a need of 20 signs comes, one of 21 doesn't; the line itself may have more
        KitchenCards x = new KitchenCards();
        Check.given(x, "(" + Check.times("~", 9) + "p>p)");
        Check.program(x, "d;s1;");
        int fits = Check.line(x, Check.times("~", 10) + "q");
        run(x, 0, fits, 0, 1, 2);
        check.same("19 ~ and a letter", Check.need(x, 0, fits, 1), Check.times("~", 19) + "q");
        run(x, 0, Check.line(x, Check.times("~", 11) + "q"), 0, 1, 1);
        run(x, 0, Check.line(x, "(pv((qvr)v((svt)v((uvp)v(qvr)))))"), 0, 1, 1);
        KitchenCards y = new KitchenCards();
        Check.given(y, "((pv" + Check.times("~", 7) + "p)>~~p)");
        Check.program(y, "d;");
        int twenty = Check.line(y, "~~(~~qv~q)");
        run(y, 0, twenty, 0, 2, 2);
        check.due("20 signs and two pairs of ( ) in it twice", Check.need(y, 0, twenty, 1).length(), 26);
        run(y, 0, Check.line(y, "~~(~~qv~~q)"), 0, 1, 1);
        // ( A > X put ) of 20 signs and of 21
        KitchenCards z = new KitchenCards();
        Check.given(z, "(" + Check.times("~", 8) + "p>p)");
        Check.program(z, "c;s2;");
        run(z, 0, Check.line(z, "(q>~~~~~~~~~r)"), 0, 2, 2);
        run(z, 0, Check.line(z, "(q>~~~~~~~~~~r)"), 0, 2, 1);
        // one that is too big, and then one that isn't
        KitchenCards v = new KitchenCards();
        Check.given(v, "(" + Check.times("~", 9) + "p>p)");
        Check.given(v, "(~p>p)");
        Check.program(v, "d;s2;");
        int behind = Check.line(v, Check.times("~", 11) + "q");
        run(v, 0, behind, 0, 2, 2);
        check.same("the one that isn't", Check.need(v, 0, behind, 1), Check.times("~", 12) + "q");
        KitchenCards w = new KitchenCards();
        Check.program(w, "m;");
        Check.given(w, "(pvq)");
        int big = Check.line(w, "((pv((qvr)v((svt)v((uvp)v(qvr)))))v(pv((qvr)v(svt))))");
        run(w, 0, big, 1, 1, 1, 0, 0);
    }

    private static void mostNeeds() {
        KitchenCards x = new KitchenCards();
        int given = 0;
        for (int nots = 0; given < 24; nots++) {
            for (int i = 0; i < 5 && given < 24; i++) {
                Check.given(x, "(" + Check.times("~", nots) + "pqrst".charAt(i) + ">(uvu))");
                given++;
            }
        }
        int line = Check.line(x, "(pvp)");
        Check.program(x, "d;s100;");
        Check.program(x, "d;s22;");
        check.due("24 needs", x.run(0, line, 2), 24);
        check.due("23 needs", x.run(1, line, 2), 23);
        check.same("the last one", Check.need(x, 0, line, 23), "~~~~r");
        check.due("no 25th", x.need(0, line, 24, 0), -4);
        check.due("tree of 24", x.tree(line, 9), 24);
        check.due("tree of 24 with more acts than any stop", x.tree(line, 1), 24);
    }

    private static void refusals() {
        KitchenCards x = new KitchenCards();
        Check.given(x, "p");
        Check.line(x, "q");
        Check.program(x, "m;");
        check.due("run: no program", x.run(1, 1, 0), -1);
        check.due("run: program -1", x.run(-1, 1, 0), -1);
        check.due("run: no line", x.run(0, 2, 0), -1);
        check.due("run: line -1", x.run(0, -1, 0), -1);
        check.due("run: what -1", x.run(0, 1, -1), -1);
        check.due("run: what 5", x.run(0, 1, 5), -1);
        check.due("run: a known one", x.run(0, 0, 0), -3);
        check.due("run: -1 is ahead of -3", x.run(0, 0, 5), -1);
        check.due("need: no program", x.need(1, 1, 0, 0), -1);
        check.due("need: no line", x.need(0, 2, 0, 0), -1);
        check.due("need: i below 0", x.need(0, 1, -1, 0), -1);
        check.due("need: j below 0", x.need(0, 1, 0, -1), -1);
        check.due("need: a known one", x.need(0, 0, 0, 0), -3);
        check.due("need: -3 is ahead of -4", x.need(0, 0, 9, 0), -3);
        check.due("need: no such need", x.need(0, 1, 1, 0), -4);
        check.due("need: far off", x.need(0, 1, Integer.MAX_VALUE, Integer.MAX_VALUE), -4);
        check.due("need", x.need(0, 1, 0, 0), 'q');
        check.due("show: no program", x.show(1, 1), -1);
        check.due("show: no line", x.show(0, 2), -1);
        check.due("show: a known one", x.show(0, 0), -3);
        check.due("tree: no line", x.tree(2, 0), -1);
        check.due("tree: depth -1", x.tree(0, -1), -1);
        check.due("tree: depth 10", x.tree(0, 10), -1);
        check.due("tree of a known one", x.tree(0, 0), 1);
    }

    private static void show() {
        KitchenCards x = new KitchenCards();
        Check.given(x, "((pvq)>(qvp))");
        Check.given(x, "(~svr)");
        Check.line(x, "(pv~q)");
        Check.line(x, "(p>~q)");
        Check.program(x, "m;d;");
        check.due("not shown", x.show(0, 3), -4);
        check.due("it is sought still", x.of(3, 5), 0);
        check.due("no place", x.of(3, 6), -4);
        check.due("shown", x.show(0, 2), 5);
        check.due("how it is", x.of(2, 5), 2);
        check.due("its place", x.of(2, 6), 2);
        check.due("from a run", x.from(2, 0), 4);
        check.due("from the last K", x.from(2, 1), 1);
        check.due("no b", x.from(2, 2), -4);
        check.due("again", x.show(0, 2), -3);
        check.due("known to the next run", x.run(0, Check.line(x, "(~rv~~p)"), 4), 1);
        check.due("one is shown", x.count(2), 1);
    }

    /** 38 acts back, 74 of chains, and two that make a need each. */
    private static void manyActs() {
        KitchenCards x = new KitchenCards();
        Check.lay(x, 0, "((pvq)>(pvq))");
        for (int n = 0; n < 37; n++) {
            x.give(x.line(0));
        }
        Check.given(x, "(p>~~r)");
        int line = Check.line(x, "(s>~~t)");
        check.due("needs by the acts behind the 100th", x.tree(line, 1), 3);
    }

    private static void tree() {
        KitchenCards x = new KitchenCards();
        Check.given(x, "(~p>p)");
        int line = Check.line(x, "q");
        // q, ~q, ~~q and so on, each a depth more
        for (int depth = 0; depth < 10; depth++) {
            check.due("tree to " + depth, x.tree(line, depth), depth + 1);
        }
        manyActs();
        KitchenCards y = new KitchenCards();
        Check.line(y, "(p>q)");
        check.due("no known ones", y.tree(0, 9), 1);
        y.give(0);
        // back p; chains (q>q), (p>p); then (q>p): the line comes of a known one, but there is no m
        check.due("of a known one", y.tree(0, 1), 4);
        check.due("of a known one, deeper", y.tree(0, 2), 5);
        check.due("of a known one, to the end", y.tree(0, 9), 5);
        check.due("not gone on from", y.tree(0, 0), 1);
    }
}

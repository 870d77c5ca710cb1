/** Promises 8 to 13: pair, widest, must, step, check, from. */
public final class PuttingsTest {
    private static final Check check = new Check("PuttingsTest");

    public static void main(String[] args) {
        pair();
        widest();
        widestSizes();
        must();
        put();
        then();
        chain();
        meaning();
        refusals();
        from();
        check.end();
    }

    private static void pair() {
        KitchenCards x = new KitchenCards();
        String[] texts = {"(p>q)", "(p>q)", "(q>p)", "(p>p)", "(~p>q)", "((pvq)>(rvp))", "p", "(pvq)"};
        for (String text : texts) {
            Check.line(x, text);
        }
        int[][] one = {{0, 1, 1}, {0, 2, 0}, {0, 0, 1}, {0, 7, 0}, {6, 0, 0}};
        for (int[] p : one) {
            check.due("one " + p[0] + " " + p[1], x.pair(p[0], p[1], 0), p[2]);
        }
        int[][] like = {{0, 2, 1}, {0, 7, 1}, {0, 3, 0}, {0, 4, 0}, {4, 5, 0}, {6, 6, 1}};
        for (int[] p : like) {
            check.due("like " + p[0] + " " + p[1], x.pair(p[0], p[1], 1), p[2]);
        }
        int[][] comes = {{0, 1, 1}, {0, 2, 1}, {0, 3, 1}, {3, 0, 0}, {0, 4, 1}, {4, 0, 0}, {0, 5, 1}, {6, 5, 1}, {0, 7, 0}, {0, 6, 0}};
        for (int[] p : comes) {
            check.due("comes " + p[0] + " " + p[1], x.pair(p[0], p[1], 2), p[2]);
        }
        check.due("same levels and unlike, places not", like("((pvq)vp)", "((pvq)v(pvq))"), 0);
        check.due("same levels and places, unlike not", like("(pvq)", "(pvp)"), 0);
        check.due("same places and unlike, levels not", like("(pvq)", "(pv~q)"), 0);
        check.due("all the same, signs not", like("((pvq)>~r)", "((s>t)v~u)"), 1);
        check.due("what -1", x.pair(0, 0, -1), -1);
        check.due("what 3", x.pair(0, 0, 3), -1);
        check.due("no a", x.pair(8, 0, 0), -1);
        check.due("no b", x.pair(0, -1, 0), -1);
    }

    private static int like(String a, String b) {
        KitchenCards x = new KitchenCards();
        return x.pair(Check.line(x, a), Check.line(x, b), 1);
    }

    private static void widest() {
        String[][] rows = {
            {"p", "p", "p"}, {"p", "q", "q"}, {"p", "~p", ""}, {"~p", "p", ""}, {"p", "~q", "~q"}, {"~q", "p", "~q"},
            {"(pvq)", "(rvs)", "(rvs)"}, {"(pvp)", "(qvr)", "(rvr)"}, {"(pvq)", "(p>q)", ""}, {"(pvq)", "~p", ""},
            {"(pvq)", "(qvp)", "(qvq)"}, {"(pv~p)", "(qvr)", "(qv~q)"}, {"(pvq)", "(qv~p)", ""},
            {"((pvq)>r)", "(s>(tvs))", "((pvq)>(tv(pvq)))"}, {"(pv(qvr))", "((qvr)v(qv~s))", "((qv~s)v(qv~s))"},
            {"(p>(p>q))", "(q>(r>r))", "(r>(r>r))"},
        };
        for (String[] row : rows) {
            KitchenCards x = new KitchenCards();
            int a = Check.line(x, row[0]);
            int b = Check.line(x, row[1]);
            check.same("widest " + row[0] + " " + row[1], Check.widest(x, a, b), row[2]);
            int size = row[2].replace("(", "").replace(")", "").length();
            check.due("its size", x.widest(a, b, -1), row[2].isEmpty() ? -4 : size);
            check.due("behind its end", x.widest(a, b, row[2].length()), -4);
        }
        KitchenCards x = new KitchenCards();
        Check.line(x, "p");
        Check.line(x, "~p");
        check.due("i -2", x.widest(0, 0, -2), -1);
        check.due("i -2 of none", x.widest(0, 1, -2), -1);
        check.due("no a", x.widest(-1, 0, 0), -1);
        check.due("no b", x.widest(0, 2, 0), -1);
    }

    private static void widestSizes() {
        KitchenCards x = new KitchenCards();
        int a = Check.line(x, "(pv(qv(rvs)))");
        int b = Check.line(x, "((qvq)v((rvr)v((svs)vt)))");
        check.due("15 and 7 and 3 and 1 and three signs", x.widest(a, b, -1), 29);
        int c = Check.line(x, "(pv(qv(rv(svt))))");
        int d = Check.line(x, "(((qvq)vq)v(((rvr)vr)v(((svs)vs)v(tvt))))");
        // s is put by t, r by 5 signs, q by 17, p by 53
        check.due("53 and 17 and 5 and (tvt) and three signs", x.widest(c, d, -1), 81);
        check.due("200", widestOf(3), 200);
        check.due("201", widestOf(4), -4);
    }

    /** p is put by a part of 21 signs, stands 8 times with 7 signs between them and so many ~, and once more with a v. */
    private static int widestOf(int nots) {
        KitchenCards x = new KitchenCards();
        String part = "(" + Check.times("~", 9) + "qv" + Check.times("~", 9) + "q)";
        int a = Check.line(x, "(pv" + Check.times("~", nots) + "(((pvp)v(pvp))v((pvp)v(pvp))))");
        int b = Check.line(x, "(" + part + "vr)");
        return x.widest(a, b, -1);
    }

    private static void must() {
        KitchenCards x = new KitchenCards();
        int a = Check.line(x, "(p>(qvp))");
        int b = Check.line(x, "((r>s)>(~qv(r>s)))");
        int c = Check.line(x, "((r>s)>(~qv(r>r)))");
        check.same("for p", Check.must(x, a, b, 'p'), "(r>s)");
        check.same("for q", Check.must(x, a, b, 'q'), "~q");
        check.due("behind its end", x.must(a, b, 'q', 2), -4);
        check.due("a letter that isn't there", x.must(a, b, 'r', 0), -4);
        check.due("b doesn't come of a", x.must(a, c, 'p', 0), -4);
        check.due("nor a of b", x.must(b, a, 'r', 0), -4);
        check.same("of itself", Check.must(x, a, a, 'p'), "p");
        int letter = Check.line(x, "s");
        check.same("for a letter that is all", Check.must(x, letter, b, 's'), "((r>s)>(~qv(r>s)))");
        check.due("no letter, below", x.must(a, b, 'o', 0), -1);
        check.due("no letter, above", x.must(a, b, 'v', 0), -1);
        check.due("a number for a byte", x.must(a, b, 0, 0), -1);
        check.due("i below 0", x.must(a, b, 'p', -1), -1);
        check.due("no a", x.must(4, b, 'p', 0), -1);
        check.due("no b", x.must(a, -1, 'p', 0), -1);
        check.due("-1 is ahead of -4", x.must(a, c, 'v', 0), -1);
    }

    /** check and step of a KIND on lines, all known but the first. */
    private static void steps(String line, int kind, String a, String b, int due) {
        KitchenCards x = new KitchenCards();
        Check.line(x, line);
        Check.line(x, a);
        Check.line(x, b);
        String what = line + " by " + kind + " from " + a + " and " + b;
        check.due("check " + what, x.check(0, kind, 1, 2), due);
        check.due("step of sought ones " + what, x.step(0, kind, 1, 2), -3);
        x.give(1);
        x.give(2);
        check.due("step " + what, x.step(0, kind, 1, 2), due == 1 ? 1 : -3);
        check.due("how it is " + what, x.of(0, 5), due == 1 ? 2 : 0);
        check.due("check after it " + what, x.check(0, kind, 1, 2), due);
    }

    private static void put() {
        steps("((qvr)>p)", 0, "(p>q)", "p", 1);
        steps("(p>p)", 0, "(p>q)", "p", 1);
        steps("(p>q)", 0, "(p>p)", "p", 0);
        steps("(pvq)", 0, "(p>q)", "p", 0);
        steps("(~(pvq)v(pvq))", 0, "(~pvp)", "p", 1);
        steps("(~(pvq)v(qvp))", 0, "(~pvp)", "p", 0);
    }

    private static void then() {
        steps("q", 1, "p", "(p>q)", 1);
        steps("q", 1, "(p>q)", "p", 0);
        steps("q", 1, "p", "(pvq)", 0);
        steps("q", 1, "r", "(p>q)", 0);
        steps("r", 1, "p", "(p>q)", 0);
        steps("(qvr)", 1, "~(pvs)", "(~(pvs)>(qvr))", 1);
        steps("(q>r)", 1, "p", "(p>(q>r))", 1);
        steps("r", 1, "q", "(p>(q>r))", 0);
        steps("q", 1, "p", "(p>(qvq))", 0);
    }

    private static void chain() {
        steps("(p>r)", 2, "(p>q)", "(q>r)", 1);
        steps("(p>r)", 2, "(q>r)", "(p>q)", 0);
        steps("(p>r)", 2, "(pvq)", "(q>r)", 0);
        steps("(p>r)", 2, "(p>q)", "(qvr)", 0);
        steps("(pvr)", 2, "(p>q)", "(q>r)", 0);
        steps("(p>r)", 2, "(p>q)", "(s>r)", 0);
        steps("(s>r)", 2, "(p>q)", "(q>r)", 0);
        steps("(p>s)", 2, "(p>q)", "(q>r)", 0);
        steps("(~p>(r>s))", 2, "(~p>~(qvt))", "(~(qvt)>(r>s))", 1);
        steps("(p>p)", 2, "(p>q)", "(q>p)", 1);
    }

    private static void meaning() {
        steps("(~pvq)", 3, "(p>q)", "p", 1);
        steps("(p>q)", 3, "(~pvq)", "p", 1);
        steps("(p>q)", 3, "(pvq)", "p", 0);
        steps("(p>q)", 3, "(p>q)", "p", 0);
        steps("(~p>q)", 3, "(~~pvq)", "p", 1);
        steps("(pvq)", 3, "(~p>q)", "p", 0);
        steps("~((pvq)v(~rvs))", 3, "~((pvq)v(r>s))", "p", 1);
        steps("~((pvq)v(r>s))", 3, "~((pvq)v(~rvs))", "p", 1);
        steps("(~pv(~qvr))", 3, "(p>(q>r))", "p", 0);
        steps("(p>(~qvr))", 3, "(p>(q>r))", "p", 1);
        steps("(~pv(q>r))", 3, "(p>(q>r))", "p", 1);
        steps("(~pv(q>r))", 3, "(p>(q>s))", "p", 0);
        steps("(~qvq)", 3, "(p>q)", "p", 0);
        steps("(~(pvq)vr)", 3, "((pvq)>r)", "p", 1);
        steps("((~pvq)>(~rvs))", 3, "((p>q)>(r>s))", "p", 0);
    }

    private static void refusals() {
        KitchenCards x = new KitchenCards();
        Check.given(x, "p");
        Check.given(x, "(p>q)");
        Check.line(x, "q");
        Check.line(x, "r");
        check.due("kind -1", x.step(2, -1, 0, 1), -1);
        check.due("kind 4", x.step(2, 4, 0, 1), -1);
        check.due("no line", x.step(4, 1, 0, 1), -1);
        check.due("no a", x.step(2, 1, -1, 1), -1);
        check.due("no b, kind 1", x.step(2, 1, 0, 4), -1);
        check.due("no b, kind 2", x.step(2, 2, 0, -1), -1);
        check.due("b is sought", x.step(2, 1, 0, 3), -3);
        check.due("a is sought", x.step(2, 1, 3, 1), -3);
        check.due("-1 is ahead of -3", x.step(0, 1, 0, 9), -1);
        check.due("nothing is shown", x.count(2), 0);
        check.due("check: kind -1", x.check(2, -1, 0, 1), -1);
        check.due("check: kind 4", x.check(2, 4, 0, 1), -1);
        check.due("check: no line", x.check(-1, 0, 0, 1), -1);
        check.due("check: no a", x.check(2, 0, 4, 1), -1);
        check.due("check: no b, kind 1", x.check(2, 1, 0, 4), -1);
        check.due("check: no b, kind 0", x.check(2, 0, 0, 4), 1);
        check.due("check: no b, kind 3", x.check(2, 3, 0, -7), 0);
        check.due("step 0 with no b", x.step(3, 0, 0, 99), 1);
        check.due("step 1", x.step(2, 1, 0, 1), 1);
        check.due("it is known", x.step(2, 1, 0, 1), -3);
        check.due("a given one", x.step(0, 0, 0, 0), -3);
        check.due("check of a known one", x.check(2, 1, 0, 1), 1);
    }

    private static void from() {
        KitchenCards x = new KitchenCards();
        Check.given(x, "p");
        Check.given(x, "(p>q)");
        Check.line(x, "q");
        Check.line(x, "(~pvq)");
        Check.line(x, "(r>s)");
        Check.line(x, "(q>q)");
        check.due("a sought one", x.from(2, 0), -3);
        check.due("a given one", x.from(1, 0), -3);
        x.step(2, 1, 0, 1);
        x.step(3, 3, 1, 99);
        x.step(4, 0, 1, 0);
        int[][] due = {{1, 0, 1}, {3, 1, -4}, {0, 1, -4}};
        for (int n = 2; n < 5; n++) {
            for (int what = 0; what < 3; what++) {
                check.due("from(" + n + ", " + what + ")", x.from(n, what), due[n - 2][what]);
            }
        }
        Check.program(x, "m;");
        x.show(0, 5);
        check.due("of a run, its kind", x.from(5, 0), 4);
        check.due("of a run, K", x.from(5, 1), 0);
        check.due("of a run, b", x.from(5, 2), -4);
        KitchenCards y = new KitchenCards();
        Check.line(y, "q");
        Check.given(y, "p");
        Check.given(y, "(p>q)");
        y.step(0, 1, 1, 2);
        check.due("line 0, its kind", y.from(0, 0), 1);
        check.due("line 0, a", y.from(0, 1), 1);
        check.due("line 0, b", y.from(0, 2), 2);
        check.due("what -1", x.from(2, -1), -1);
        check.due("what 3", x.from(2, 3), -1);
        check.due("no line", x.from(6, 0), -1);
        check.due("-1 is ahead of -3", x.from(0, 3), -1);
    }
}

/** Promises 1 to 7: a new object, fault, line, of, letter, give, table, and pair. */
public final class LinesTest {
    private static final Check check = new Check("LinesTest");

    public static void main(String[] args) {
        newObject();
        fault();
        line();
        of();
        letter();
        give();
        table();
        check.end();
    }

    private static void newObject() {
        KitchenCards x = new KitchenCards();
        check.due("lines of a new object", x.count(0), 0);
        check.due("given ones", x.count(1), 0);
        check.due("shown ones", x.count(2), 0);
        check.due("programs", x.count(3), 0);
        check.due("sizes", x.count(4), 0);
        check.due("true ones", x.count(5), 0);
        check.due("never", x.never(), 0);
        check.due("of(0, 0)", x.of(0, 0), -1);
        for (int d = 0; d < 8; d++) {
            check.due("shelf " + d, x.effort(d), -11);
        }
        check.due("a second object is its own", Check.line(new KitchenCards(), "p") + Check.line(x, "p"), 0);
    }

    private static void fault() {
        String[] lines = {"p", "u", "~p", "(pvq)", "(p>q)", "~(pvq)", "(~pv~~q)", "((pvq)>(r>~s))"};
        for (String text : lines) {
            check.due("fault " + text, Check.fault(text), -4);
        }
        String[] texts = {"", "v", "o", "w", "P", " p", "pq", "p ", "(", "(p", "(pv", "(pvq", "(pvq))", "(p)", "()", "(p&q)",
            "~", "~~", "~v", "((p>q)", "(p>q)>r", "(p>q>r)", "(pVq)", "(p v q)", "(p>)", "~)"};
        int[] places = {0, 0, 0, 0, 0, 0, 1, 1, 1, 2, 3, 4, 5, 2, 1, 2,
            1, 2, 1, 6, 5, 4, 2, 2, 3, 1};
        for (int i = 0; i < texts.length; i++) {
            check.due("fault " + texts[i], Check.fault(texts[i]), places[i]);
        }
        check.due("12 open ~", Check.fault(Check.times("~", 12) + "p"), -4);
        check.due("13 open ~", Check.fault(Check.times("~", 13) + "p"), 12);
        check.due("12 open ( left", Check.fault(Check.times("(", 12) + "p" + Check.times("vq)", 12)), -4);
        check.due("13 open (", Check.fault(Check.times("(", 13) + "p" + Check.times("vq)", 13)), 12);
        check.due("12 open ( right", Check.fault(Check.times("(pv", 12) + "q" + Check.times(")", 12)), -4);
        check.due("13 open ( right", Check.fault(Check.times("(pv", 13) + "q" + Check.times(")", 13)), 36);
        check.due("6 of each", Check.fault(Check.times("~(", 6) + "p" + Check.times("vq)", 6)), -4);
        check.due("~ in 12", Check.fault(Check.times("~(", 6) + "~p"), 12);
        check.due("a ~ shuts with its part", Check.fault("(" + Check.times("~", 11) + "pv" + Check.times("~", 11) + "q)"), -4);
        check.due("one ~ too many on the right", Check.fault("(" + Check.times("~", 11) + "pv" + Check.times("~", 12) + "q)"), 25);
        String sixty = Check.sixty();
        check.due("60 bytes in the test", sixty.length(), 60);
        check.due("60 bytes", Check.fault(sixty), -4);
        String sixtyOne = "(" + Check.wide(10, 10) + "v(" + Check.wide(9, 9) + "v" + Check.wide(1, 1) + "))";
        check.due("61 bytes in the test", sixtyOne.length(), 61);
        check.due("61 bytes", Check.fault(sixtyOne), 60);
        check.due("120 bytes", Check.fault(sixtyOne + sixtyOne.substring(2)), 60);
        check.due("59 bytes that end too early", Check.fault(sixty.substring(0, 59)), 59);
        check.due("a fault ahead of the 61st byte", Check.fault("(p" + Check.times("x", 80)), 2);
        check.due("a whole line ahead of more", Check.fault("p" + Check.times("x", 80)), 1);
        KitchenCards x = new KitchenCards();
        Check.line(x, "p");
        check.due("fault(-1)", x.fault(-1), -1);
        check.due("fault(8)", x.fault(8), -1);
        check.due("fault of nothing", x.fault(0), -11);
        x.keep(0, 1, 0, 0);
        check.due("fault of a card", x.fault(0), -12);
        x.row(0, 1, 1);
        x.put(0, 0, 'p');
        check.due("fault of shorts", x.fault(0), -12);
        x.row(0, 2, 1);
        check.due("fault of ints", x.fault(0), -12);
        check.due("fault makes no line", x.count(0), 1);
        x.row(0, 0, 1);
        x.put(0, 0, 'p' + 256);
        check.due("a byte keeps its lowest bits", x.fault(0), -4);
    }

    private static void line() {
        KitchenCards x = new KitchenCards();
        check.due("line(-1)", x.line(-1), -1);
        check.due("line(8)", x.line(8), -1);
        check.due("line of nothing", x.line(0), -11);
        check.due("first line", Check.line(x, "(pvq)"), 0);
        check.due("the same line again", Check.line(x, "(pvq)"), 1);
        check.due("a fault", Check.line(x, "(pv)"), -103);
        check.due("an empty text", Check.line(x, ""), -100);
        check.due("too early", Check.line(x, "~"), -101);
        check.due("refused ones are none", x.count(0), 2);
        x.keep(0, 1, 0, 0);
        check.due("line of a card", x.line(0), -12);
        x.row(0, 1, 1);
        check.due("line of shorts", x.line(0), -12);
        for (int n = 2; n < 40; n++) {
            check.due("line " + n, Check.line(x, "p"), n);
        }
        check.due("no room", Check.line(x, "p"), -2);
        check.due("no room is ahead of -11", x.line(1), -2);
        check.due("no room is ahead of -12", x.line(0), -2);
        check.due("no room is ahead of a fault", Check.line(x, "x"), -2);
        check.due("-1 is ahead of no room", x.line(8), -1);
        check.due("40 lines", x.count(0), 40);
    }

    private static void of() {
        KitchenCards x = new KitchenCards();
        Check.line(x, "((~p>q)v~~~(pvr))");
        int[] due = {11, 6, 4, 3, 0, 0, -4};
        for (int what = 0; what < due.length; what++) {
            check.due("of(0, " + what + ")", x.of(0, what), due[what]);
        }
        Check.line(x, "u");
        int[] dueLetter = {1, 1, 1, 1, 0, 0, -4};
        for (int what = 0; what < dueLetter.length; what++) {
            check.due("of(1, " + what + ")", x.of(1, what), dueLetter[what]);
        }
        Check.line(x, "(pv~p)");
        check.due("a true one", x.of(2, 4), 1);
        Check.line(x, "~(pv~p)");
        check.due("a false one", x.of(3, 4), 0);
        Check.line(x, "(((p>q)>p)>p)");
        check.due("a true one of if alone", x.of(4, 4), 1);
        x.give(2);
        x.give(0);
        check.due("given", x.of(2, 5), 1);
        check.due("first", x.of(2, 6), 0);
        check.due("second", x.of(0, 6), 1);
        x.step(1, 0, 2, 0);
        check.due("still sought", x.of(1, 5), 0);
        Check.line(x, "(qv~q)");
        x.step(5, 0, 2, 0);
        check.due("shown", x.of(5, 5), 2);
        check.due("third", x.of(5, 6), 2);
        check.due("of(-1, 0)", x.of(-1, 0), -1);
        check.due("of(6, 0)", x.of(6, 0), -1);
        check.due("of(0, -1)", x.of(0, -1), -1);
        check.due("of(0, 7)", x.of(0, 7), -1);
    }

    private static void letter() {
        KitchenCards x = new KitchenCards();
        String[] texts = {"p", "~~q", "(p>q)", "(~(pvq)>((r>s)v~(tvu)))", "((p>q)v(r>s))"};
        for (int n = 0; n < texts.length; n++) {
            Check.line(x, texts[n]);
            check.same("text " + n, Check.letters(x, n), texts[n]);
            check.due("behind its end", x.letter(n, texts[n].length()), -4);
        }
        check.due("far behind", x.letter(0, Integer.MAX_VALUE), -4);
        check.due("i below 0", x.letter(0, -1), -1);
        check.due("letter(-1, 0)", x.letter(-1, 0), -1);
        check.due("letter(5, 0)", x.letter(5, 0), -1);
        check.due("-1 is ahead of -4", x.letter(5, 99), -1);
    }

    private static void give() {
        KitchenCards x = new KitchenCards();
        Check.line(x, "p");
        Check.line(x, "q");
        check.due("give", x.give(0), 1);
        check.due("again", x.give(0), 0);
        x.step(1, 0, 0, 0);
        check.due("a shown one", x.give(1), 0);
        check.due("stays shown", x.of(1, 5), 2);
        check.due("keeps its place", x.of(1, 6), 1);
        check.due("give(-1)", x.give(-1), -1);
        check.due("give(2)", x.give(2), -1);
    }

    private static void table() {
        KitchenCards x = new KitchenCards();
        String[] texts = {"p", "~p", "u", "(pvq)", "(p>q)", "(pvp)", "(p>p)", "~(p>p)", "((pvq)>(rvs))", "(pv(qv(rv(sv(tvu)))))",
            "(p>(q>(r>(s>(t>u)))))", "(svt)", "~(p>u)"};
        int[] due = {1, 1, 1, 3, 3, 1, 2, 0, 13, 63, 63, 3, 1};
        for (int n = 0; n < texts.length; n++) {
            Check.line(x, texts[n]);
            check.due("table of " + texts[n], x.table(n), due[n]);
        }
        check.due("table(-1)", x.table(-1), -1);
        check.due("table(13)", x.table(13), -1);
    }
}

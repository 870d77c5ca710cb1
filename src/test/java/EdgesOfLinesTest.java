/**
 * The sentences of promises 1 to 13, and of the terms they use, that name a boundary case:
 * each has a check of its own, named by the promise's number and the document's words.
 */
public final class EdgesOfLinesTest {
    private static final Check check = new Check("EdgesOfLinesTest");
    private static final int LEAST = Integer.MIN_VALUE;
    private static final int MOST = Integer.MAX_VALUE;

    public static void main(String[] args) {
        promise1();
        promise2();
        promise2Open();
        promise3();
        promise4();
        promises5To7();
        promise8();
        promise9();
        promise10();
        promise11();
        promise12();
        promise13();
        check.end();
    }

    private static void promise1() {
        KitchenCards x = new KitchenCards();
        for (int what = 0; what < 6; what++) {
            check.due("1: no LINES, PROGRAMS: count(" + what + ")", x.count(what), 0);
        }
        check.due("1: no LINES: of", x.of(0, 0), -1);
        check.due("1: no LINES: letter", x.letter(0, 0), -1);
        check.due("1: no LINES: give", x.give(0), -1);
        check.due("1: no LINES: tree", x.tree(0, 0), -1);
        check.due("1: no LINES: height", x.height(0), -1);
        check.due("1: no LINES: keep", x.keep(0, 1, 0, 0), -1);
        check.due("1: no LINES: never", x.never(), 0);
        check.due("1: the first LINE is 0", Check.line(x, "p"), 0);
        check.due("1: no PROGRAMS: run", x.run(0, 0, 0), -1);
        check.due("1: the first PROGRAM is 0", Check.program(x, "m;"), 0);
        check.due("1: no image", x.restore(), -3);
        check.due("terms: shelves hold nothing at first", x.effort(0), -11);
    }

    private static void promise2() {
        String early = "(" + Check.wide(10, 10) + "v(" + Check.wide(9, 9) + "v" + Check.wide(1, 1) + ")";
        check.due("2: the test's text has 60 bytes", early.length(), 60);
        check.due("2: the size, if it ends too early, of 60 bytes", Check.fault(early), 60);
        check.due("2: a 61st byte can't be", Check.fault(early + ")"), 60);
        check.due("2: a 61st byte can't be, behind a LINE of 60", Check.fault(Check.sixty() + ")"), 60);
        check.due("2: -4, it is a LINE, of 60 bytes", Check.fault(Check.sixty()), -4);
        check.due("2: a row of 120", Check.fault(early + early), 60);
        check.due("2: the size, if it ends too early, of none", Check.fault(""), 0);
        check.due("2: the size, if it ends too early, behind a sign", Check.fault("(p>"), 3);
        check.due("2: no blanks", Check.fault("(p> q)"), 3);
        int[] others = {0, 'o', 'v', '>', ')', ' ', 127, -1, -128, 'P', 'p' - 128};
        for (int other : others) {
            KitchenCards x = new KitchenCards();
            Check.layBytes(x, 0, other);
            check.due("2: the first byte with which no LINE can go on: " + other, x.fault(0), 0);
            Check.layBytes(x, 0, 'p', other);
            check.due("2: behind a LINE: " + other, x.fault(0), 1);
        }
        for (char letter = 'p'; letter <= 'u'; letter++) {
            check.due("2: a LETTER " + letter, Check.fault("" + letter), -4);
        }
        KitchenCards x = Check.with("p");
        for (int d : Check.NO_SHELF) {
            check.due("2: -1, shelf " + d, x.fault(d), -1);
        }
        check.due("2: -11", x.fault(1), -11);
        x.keep(1, 1, 0, 0);
        check.due("2: -12, a card", x.fault(1), -12);
        for (int sort = 1; sort < 3; sort++) {
            x.row(1, sort, 1);
            x.put(1, 0, 'p');
            check.due("2: -12 (no ROW of bytes), sort " + sort, x.fault(1), -12);
        }
    }

    private static void promise2Open() {
        String twelve = Check.times("~(", 6);
        check.due("2: a LETTER with 12 open", Check.fault(twelve + "p"), 13);
        check.due("2: a ( with 12 open around it", Check.fault(twelve + "("), 12);
        check.due("2: a ~ with 12 open around it", Check.fault(twelve + "~"), 12);
        check.due("2: a ( with 11 open around it", Check.fault(Check.times("~", 11) + "(p>q)"), -4);
        check.due("2: a ( stays open behind its sign", Check.fault(Check.times("(p>", 12) + "~"), 36);
        check.due("2: a ( shut is open no more", Check.fault("(" + Check.times("(", 11) + "p" + Check.times(">q)", 11) + ">"
            + Check.times("~", 11) + "q)"), -4);
        check.due("2: the same with one ~ more", Check.fault("(" + Check.times("(", 11) + "p" + Check.times(">q)", 11) + ">"
            + Check.times("~", 12) + "q)"), 1 + 11 + 1 + 33 + 1 + 11);
    }

    private static void promise3() {
        KitchenCards x = new KitchenCards();
        for (int d : Check.NO_SHELF) {
            check.due("3: -1, shelf " + d, x.line(d), -1);
        }
        check.due("3: -11", x.line(0), -11);
        check.due("3: -100 less a FAULT of 0", Check.line(x, ""), -100);
        check.due("3: -100 less a FAULT of 60", Check.line(x, Check.sixty() + "p"), -160);
        check.due("3: a LINE of 60 bytes", Check.line(x, Check.sixty()), 0);
        check.due("3: SOUGHT", x.of(0, 5), 0);
        check.due("3: of those that are alike each comes", Check.line(x, Check.sixty()), 1);
        check.due("3: a LINE behind a refused text", Check.line(x, "(p>"), -103);
        check.due("3: it has the next number", Check.line(x, "p"), 2);
        for (int n = 3; n < 40; n++) {
            Check.line(x, "q");
        }
        check.due("terms: LINES 0 .. 39", x.of(39, 0), 1);
        check.due("3: -2, a 41st", Check.line(x, "p"), -2);
        check.due("terms: no LINE 40", x.of(40, 0), -1);
        check.due("3: -1 ahead of -2", x.line(-1), -1);
        check.due("3: -2 ahead of -11", x.line(0), -2);
        x.keep(0, 1, 0, 0);
        check.due("3: -2 ahead of -12", x.line(0), -2);
        check.due("3: -2 ahead of -100 less a FAULT", Check.line(x, "("), -2);
        check.due("2: a fault is told still, with no room", x.fault(7), 1);
    }

    private static void promise4() {
        KitchenCards x = Check.with("p", Check.sixty(), "(pv(qv(rv(sv(tv(uv~u))))))", "~(pv~p)", "q");
        // ten ~ are none and nine are one, so it says (pvq) or (~pv~q)
        int[] big = {50, 13, 6, 2, 1, 0, -4};
        int[] least = {1, 1, 1, 1, 0, 0, -4};
        int[] six = {14, 8, 7, 6, 1, 0, -4};
        for (int what = 0; what < 7; what++) {
            check.due("4: of a LETTER, what " + what, x.of(0, what), least[what]);
            check.due("4: of 60 bytes, what " + what, x.of(1, what), big[what]);
            check.due("4: of all six LETTERS, what " + what, x.of(2, what), six[what]);
        }
        check.due("terms: TRUE whatever its LETTERS are, never is not", x.of(3, 4), 0);
        check.due("4: -4, no place among KNOWN ones", x.of(4, 6), -4);
        x.give(4);
        check.due("4: the first place", x.of(4, 6), 0);
        check.due("4: how it is, GIVEN", x.of(4, 5), 1);
        x.step(0, 0, 4, 0);
        check.due("4: how it is, SHOWN", x.of(0, 5), 2);
        check.due("4: the next place", x.of(0, 6), 1);
        int[] wrong = {-1, 7, LEAST, MOST};
        for (int what : wrong) {
            check.due("4: -1, what " + what, x.of(0, what), -1);
        }
        int[] none = {-1, 5, 40, LEAST, MOST};
        for (int line : none) {
            check.due("4: -1, line " + line, x.of(line, 0), -1);
        }
    }

    private static void promises5To7() {
        KitchenCards x = Check.with("q", Check.sixty(), "p", "(pv~p)", "(pv(qv(rv(sv(tv(uv~u))))))", "~(pv(qv(rv(sv(tv(uv~u))))))");
        check.due("5: the last byte", x.letter(1, 59), ')');
        check.due("5: -4, behind its end", x.letter(1, 60), -4);
        check.due("5: -4, far behind", x.letter(1, MOST), -4);
        check.due("5: -4, behind a LETTER", x.letter(0, 1), -4);
        check.due("5: -1, i below 0", x.letter(1, -1), -1);
        check.due("5: -1, i far below 0", x.letter(1, LEAST), -1);
        check.due("5: -1, no such LINE", x.letter(6, 0), -1);
        check.due("6: 1", x.give(0), 1);
        check.due("6: 0, it was KNOWN (GIVEN)", x.give(0), 0);
        check.due("6: it has its place still", x.of(0, 6), 0);
        check.due("6: one is GIVEN", x.count(1), 1);
        x.step(2, 0, 0, 0);
        check.due("6: 0, it was KNOWN (SHOWN)", x.give(2), 0);
        check.due("6: it is SHOWN still", x.of(2, 5), 2);
        check.due("6: -1, line 6", x.give(6), -1);
        check.due("6: -1, line -1", x.give(-1), -1);
        check.due("7: all ways, one LETTER", x.table(3), 2);
        check.due("7: all ways, six LETTERS", x.table(4), 64);
        check.due("7: no way", x.table(5), 0);
        check.due("7: -1, line 6", x.table(6), -1);
        check.due("7: -1, line -1", x.table(-1), -1);
    }

    private static void promise8() {
        KitchenCards x = Check.with("p", "q", "(pvq)", "(qvp)", "(pvp)");
        check.due("8: one, with itself", x.pair(2, 2, 0), 1);
        check.due("8: one, of other LETTERS", x.pair(0, 1, 0), 0);
        check.due("8: LIKE, two LETTERS", x.pair(0, 1, 1), 1);
        check.due("8: LIKE, but for UNLIKE ones", x.pair(2, 4, 1), 0);
        check.due("8: b comes of a, all at once", x.pair(2, 3, 2), 1);
        check.due("8: b comes of a, a LETTER", x.pair(0, 2, 2), 1);
        check.due("8: b doesn't, one LETTER for two", x.pair(4, 2, 2), 0);
        check.due("8: -1, what -1", x.pair(0, 0, -1), -1);
        check.due("8: -1, what 3", x.pair(0, 0, 3), -1);
        check.due("8: -1, a 5", x.pair(5, 0, 0), -1);
        check.due("8: -1, b 5", x.pair(0, 5, 0), -1);
        check.due("8: -1, a -1", x.pair(-1, 0, 0), -1);
        check.due("8: -1, b -1", x.pair(0, -1, 0), -1);
    }

    /** p is put by 21 signs, 25 bytes; it stands nine times, with eight signs of two parts between, and so many ~. */
    private static KitchenCards nearTooWide(int nots) {
        String part = "(" + Check.times("~", 9) + "qv" + Check.times("~", 9) + "q)";
        return Check.with("(pv" + Check.times("~", nots) + "(((pvp)v(pvp))v((pvp)v(pvp))))", "(" + part + "vr)");
    }

    private static void promise9() {
        KitchenCards x = nearTooWide(3);
        check.due("9: a SIZE of 200", x.widest(0, 1, -1), 200);
        // 17 pairs of ( ) more
        check.due("9: its last byte", x.widest(0, 1, 233), ')');
        check.due("9: the last LETTER, ahead of five )", x.widest(0, 1, 228), 'q');
        check.due("9: -4, behind its end", x.widest(0, 1, 234), -4);
        check.due("9: the same the other way round", x.widest(1, 0, -1), 200);
        KitchenCards y = nearTooWide(4);
        check.due("9: none, a SIZE above 200", y.widest(0, 1, -1), -4);
        check.due("9: none, of its text", y.widest(0, 1, 0), -4);
        check.due("9: none, the other way round", y.widest(1, 0, -1), -4);
        check.due("9: -1, i below -1", y.widest(0, 1, -2), -1);
        check.due("9: -1, i far below -1", x.widest(0, 1, LEAST), -1);
        check.due("9: -4, far behind", x.widest(0, 1, MOST), -4);
        KitchenCards z = Check.with("p", "~p", "q", "(pvq)", "(~qvp)");
        check.due("9: none, it has that LETTER in it", z.widest(0, 1, -1), -4);
        check.due("9: a LETTER of A, if both are", z.widest(0, 2, 0), 'q');
        check.due("9: and the other way round", z.widest(2, 0, 0), 'p');
        // p is put by ~q everywhere: (~qvq) and (~qv~q); then q of A by ~q, that has it in it
        check.due("9: none, as all was put ahead", z.widest(3, 4, -1), -4);
        check.due("9: alike from the first", z.widest(1, 1, -1), 2);
        check.due("9: -1, a 5", z.widest(5, 0, -1), -1);
        check.due("9: -1, b -1", z.widest(0, -1, -1), -1);
    }

    private static void promise10() {
        KitchenCards x = Check.with("(p>p)", "(~q>~q)", "(~q>q)", Check.sixty(), "p");
        check.due("10: the last byte", x.must(0, 1, 'p', 1), 'q');
        check.due("10: -4, behind its end", x.must(0, 1, 'p', 2), -4);
        check.due("10: -4, b doesn't come of a", x.must(0, 2, 'p', 0), -4);
        check.due("10: -4, the LETTER isn't in a", x.must(0, 1, 'q', 0), -4);
        check.due("10: the 60th byte", x.must(4, 3, 'p', 59), ')');
        check.due("10: -4, behind the 60th", x.must(4, 3, 'p', 60), -4);
        check.due("10: -1, the byte ahead of the LETTERS", x.must(0, 1, 'o', 0), -1);
        check.due("10: -1, the byte behind the LETTERS", x.must(0, 1, 'v', 0), -1);
        check.due("10: the last LETTER", x.must(0, 1, 'u', 0), -4);
        check.due("10: -1, i below 0", x.must(0, 1, 'p', -1), -1);
        check.due("10: -1, no a", x.must(5, 1, 'p', 0), -1);
        check.due("10: -1, no b", x.must(0, 5, 'p', 0), -1);
        check.due("10: -1 ahead of -4", x.must(0, 2, 'p', -1), -1);
    }

    private static void promise11() {
        KitchenCards x = Check.with("q", "p", "(p>q)", "(r>s)", "(p>s)", "(q>s)", "(~pvq)");
        check.due("11: -3, a isn't KNOWN", x.step(0, 1, 1, 2), -3);
        x.give(1);
        check.due("11: -3, b isn't KNOWN, though it is so", x.step(0, 1, 1, 2), -3);
        check.due("11: it is so", x.check(0, 1, 1, 2), 1);
        x.give(2);
        check.due("11: -3, a isn't KNOWN, though b is", x.step(4, 2, 5, 2), -3);
        check.due("11: -3, b of a CHAIN isn't KNOWN", x.step(4, 2, 2, 5), -3);
        check.due("11: it is a chain", x.check(4, 2, 2, 5), 1);
        check.due("11: -3, the checker refuses it", x.step(3, 3, 2, 0), -3);
        check.due("11: -1 (b counts for KINDS 1, 2 alone): 1", x.step(0, 1, 1, 7), -1);
        check.due("11: -1 (b counts for KINDS 1, 2 alone): 2", x.step(4, 2, 2, -1), -1);
        check.due("11: b that is no LINE, KIND 0", x.step(3, 0, 2, 7), 1);
        check.due("11: b that is no LINE, KIND 3", x.step(6, 3, 2, -1), 1);
        check.due("11: b that is SOUGHT, KIND 0", x.step(5, 0, 2, 4), 1);
        check.due("11: KIND 1, 1", x.step(0, 1, 1, 2), 1);
        check.due("11: -3, it is KNOWN (SHOWN)", x.step(0, 1, 1, 2), -3);
        check.due("11: -3, it is KNOWN (GIVEN)", x.step(1, 0, 1, 1), -3);
        check.due("11: KIND 2, 1", x.step(4, 2, 2, 5), 1);
        check.due("11: -1, KIND -1", x.step(4, -1, 2, 5), -1);
        check.due("11: -1, KIND 4", x.step(4, 4, 2, 5), -1);
        check.due("11: -1, no line", x.step(7, 0, 2, 5), -1);
        check.due("11: -1, no a", x.step(4, 0, -1, 5), -1);
        check.due("11: -1 ahead of -3", x.step(0, 4, 1, 2), -1);
        KitchenCards y = Check.with("(p>p)", "p");
        check.due("11: -3, from itself, that is SOUGHT", y.step(0, 0, 0, 0), -3);
    }

    private static void promise12() {
        KitchenCards x = Check.with("(p>p)", "p", "(qvp)");
        check.due("12: SOUGHT ones, 1", x.check(0, 0, 1, 9), 1);
        check.due("12: SOUGHT ones, 0", x.check(1, 0, 0, 9), 0);
        check.due("12: a line from itself by PUTTING", x.check(0, 0, 0, 0), 1);
        check.due("12: from itself and if-this-then-that", x.check(1, 1, 1, 0), 1);
        check.due("12: two ifs that are one", x.check(0, 2, 0, 0), 1);
        check.due("12: no change isn't one change", x.check(0, 3, 0, 0), 0);
        x.give(0);
        x.give(1);
        check.due("12: KNOWN ones, 1", x.check(0, 0, 1, 9), 1);
        check.due("12: KNOWN ones, 0", x.check(1, 0, 0, 9), 0);
        check.due("12: it stays as it is", x.of(2, 5), 0);
        check.due("12: -1, KIND -1", x.check(0, -1, 1, 1), -1);
        check.due("12: -1, KIND 4", x.check(0, 4, 1, 1), -1);
        check.due("12: -1, no line", x.check(3, 0, 1, 1), -1);
        check.due("12: -1, no a", x.check(0, 0, 3, 1), -1);
        check.due("12: -1, no b, KIND 1", x.check(1, 1, 1, 3), -1);
        check.due("12: -1, no b, KIND 2", x.check(0, 2, 0, -1), -1);
        check.due("12: no b, KIND 3", x.check(0, 3, 1, -1), 0);
    }

    private static void promise13() {
        KitchenCards x = Check.with("p", "q", "r", "s", "(q>r)");
        check.due("13: -3, it is SOUGHT", x.from(0, 0), -3);
        x.give(0);
        check.due("13: -3, it is GIVEN", x.from(0, 1), -3);
        x.step(1, 0, 0, 2);
        check.due("13: the KIND of its STEP", x.from(1, 0), 0);
        check.due("13: a", x.from(1, 1), 0);
        check.due("13: -4, no b (though one was told)", x.from(1, 2), -4);
        x.give(4);
        x.step(2, 1, 1, 4);
        check.due("13: b", x.from(2, 2), 4);
        Check.program(x, "m;k1;");
        check.due("13: not by the last K", x.show(0, 3), 1);
        check.due("13: 4: a RUN", x.from(3, 0), 4);
        check.due("13: of a RUN the last K", x.from(3, 1), 2);
        check.due("13: of a RUN -4", x.from(3, 2), -4);
        check.due("13: -1, what -1", x.from(1, -1), -1);
        check.due("13: -1, what 3", x.from(1, 3), -1);
        check.due("13: -1, no line", x.from(5, 0), -1);
        check.due("13: -1 ahead of -3", x.from(0, 3), -1);
    }
}

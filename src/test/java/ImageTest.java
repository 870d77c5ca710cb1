/** Promises 24 to 26: image, restore, count. */
public final class ImageTest {
    private static final Check check = new Check("ImageTest");

    public static void main(String[] args) {
        image();
        whatIsRestored();
        theFirstLine();
        shelvesStay();
        emptyImage();
        count();
        check.end();
    }

    private static void image() {
        KitchenCards x = new KitchenCards();
        check.due("no image", x.restore(), -3);
        Check.line(x, "p");
        Check.line(x, "q");
        check.due("still none", x.restore(), -3);
        check.due("image", x.image(), 2);
        Check.line(x, "r");
        check.due("restored", x.restore(), 2);
        check.due("two lines", x.count(0), 2);
        check.due("the third is gone", x.of(2, 0), -1);
        check.due("the next is the third", Check.line(x, "~r"), 2);
        check.due("restored again", x.restore(), 2);
        Check.line(x, "s");
        check.due("a later image", x.image(), 3);
        x.give(2);
        check.due("restored to it", x.restore(), 3);
        check.due("the later one", x.of(2, 5), 0);
        check.same("its text", Check.letters(x, 2), "s");
    }

    private static void whatIsRestored() {
        KitchenCards x = new KitchenCards();
        Check.line(x, "(p>q)");
        Check.line(x, "p");
        Check.line(x, "q");
        Check.line(x, "(qvq)");
        x.give(1);
        x.give(0);
        x.step(2, 1, 1, 0);
        Check.program(x, "m;");
        x.image();
        x.step(3, 0, 1, 0);
        Check.program(x, "d;");
        Check.line(x, "u");
        x.give(4);
        check.due("before", x.count(1) * 100 + x.count(2) * 10 + x.count(3), 322);
        check.due("restored", x.restore(), 4);
        check.due("given, shown, programs", x.count(1) * 100 + x.count(2) * 10 + x.count(3), 211);
        int[] places = {1, 0, 2, -4};
        for (int n = 0; n < 4; n++) {
            check.due("place of " + n, x.of(n, 6), places[n]);
        }
        check.due("the kind of its step", x.from(2, 0), 1);
        check.due("a", x.from(2, 1), 1);
        check.due("b", x.from(2, 2), 0);
        check.due("sought again", x.from(3, 0), -3);
        check.due("run on it", x.run(0, 3, 1), 1);
        check.due("program 1 is gone", x.run(1, 3, 1), -1);
        check.due("the next program is 1", Check.program(x, "c;"), 1);
        check.due("shown another way", x.step(3, 0, 2, 0), 1);
        check.due("from there", x.from(3, 1), 2);
        x.restore();
        x.give(3);
        check.due("given now", x.of(3, 5), 1);
        check.due("its place", x.of(3, 6), 3);
        check.due("no step of it", x.from(3, 0), -3);
    }

    /** How the first line is, and how many are known, is restored, too. */
    private static void theFirstLine() {
        KitchenCards x = new KitchenCards();
        Check.line(x, "(pvp)");
        Check.line(x, "(qvq)");
        Check.program(x, "m;");
        x.image();
        x.give(0);
        check.due("one act", x.run(0, 1, 1), 1);
        x.restore();
        check.due("sought again", x.of(0, 5), 0);
        check.due("no acts", x.run(0, 1, 1), 0);
        x.give(1);
        check.due("the first known one", x.of(1, 6), 0);
        x.image();
        x.step(0, 0, 1, 0);
        x.restore();
        check.due("sought", x.of(0, 5), 0);
        check.due("known", x.of(1, 5), 1);
    }

    private static void shelvesStay() {
        KitchenCards x = new KitchenCards();
        Check.line(x, "p");
        x.image();
        Check.line(x, "((p>q)vr)");
        x.keep(0, 1, 6, 1);
        Check.layBytes(x, 1, 7, 8);
        x.restore();
        check.due("a card of a line that is gone", x.effort(0), 16);
        check.due("its failure", x.toss(0), 203);
        check.due("a row", x.element(1, 1), 8);
        Check.line(x, "~q");
        check.due("a card of the line as then", x.effort(0), 16);
        x.keep(0, 1, 3, 1);
        check.due("a card of the line now", x.effort(0), 6);
        check.due("its failure", x.toss(0), 101);
    }

    private static void emptyImage() {
        KitchenCards x = new KitchenCards();
        check.due("image of nothing", x.image(), 0);
        Check.line(x, "p");
        Check.program(x, "m;");
        check.due("restored to nothing", x.restore(), 0);
        check.due("no lines", x.count(0), 0);
        check.due("no programs", x.count(3), 0);
        while (Check.line(x, "(p>p)") >= 0) {
            x.give(x.count(0) - 1);
        }
        check.due("40 lines", x.image(), 40);
        check.due("40 lines restored", x.restore(), 40);
        check.due("the last one", x.of(39, 6), 39);
    }

    private static void count() {
        KitchenCards x = new KitchenCards();
        String[] texts = {"p", "(p>p)", "~(qvr)", "(pv~p)", "(pvq)"};
        for (String text : texts) {
            Check.line(x, text);
        }
        x.give(0);
        x.give(3);
        x.step(4, 0, 0, 0);
        Check.program(x, "m;");
        Check.program(x, "l;");
        Check.program(x, "l");
        int[] due = {5, 2, 1, 2, 15, 2};
        for (int what = 0; what < due.length; what++) {
            check.due("count(" + what + ")", x.count(what), due[what]);
        }
        KitchenCards y = new KitchenCards();
        Check.line(y, "(p>p)");
        check.due("true ones of one line", y.count(5), 1);
        check.due("count(-1)", x.count(-1), -1);
        check.due("count(6)", x.count(6), -1);
        check.due("count(least)", x.count(Integer.MIN_VALUE), -1);
    }
}

/** Each sentence of promises 14 to 18, and of the terms they stand on, that names a boundary case. */
public final class EdgeSpanTest {
    private static final Check CHECK = new Check("EdgeSpanTest");
    private static final int[] NO_WHATS = {-1, 2, 3, Integer.MIN_VALUE, Integer.MAX_VALUE};
    private static final int[] NO_LAMP_OF_THREE = {-1, 3, 35, 36, Integer.MIN_VALUE, Integer.MAX_VALUE};

    public static void main(String[] args) {
        terms();
        promises();
        CHECK.end();
    }

    private static void terms() {
        CHECK.sentence(0, "A BUTTON that isn't JAMMED is BOUND, if its AMOUNTS are a sum of those (each some times) of lesser ones",
            EdgeSpanTest::sumOfLesser);
        CHECK.sentence(0, "that are neither JAMMED nor BOUND", EdgeSpanTest::neitherJammedNorBound);
        CHECK.sentence(0, "others are OWN ones (without JAMMED).", EdgeSpanTest::ownWithoutJammed);
        CHECK.sentence(0, "QUIET by a BOUND one c: it once, and lesser OWN ones so often that no LAMP is stepped.",
            EdgeSpanTest::quietOnce);
        CHECK.sentence(0, "RANK: how many OWN ones.", EdgeSpanTest::howManyOwn);
        CHECK.sentence(0, "A LAMP is BOUND, if its AMOUNTS (of all BUTTONS that aren't JAMMED) are a sum of those of lesser LAMPS"
            + " that aren't BOUND", EdgeSpanTest::boundLamps);
        CHECK.sentence(0, "its SUM: 1 of it, and NUMBERS of these, by which all AMOUNTS together are 0 for each BUTTON.",
            EdgeSpanTest::sumOfOne);
        CHECK.sentence(0, "A SUM shows WHY NOT, if by it what THE WISH is more than THE STATE isn't 0.", EdgeSpanTest::showsWhyNot);
    }

    private static void promises() {
        CHECK.sentence(14, "RANK.", EdgeSpanTest::rank);
        CHECK.sentence(15, "The i-th BOUND BUTTON (what 0), LAMP (1)", EdgeSpanTest::ith);
        CHECK.sentence(15, "i NONE: how many.", EdgeSpanTest::howMany);
        CHECK.sentence(15, "NoSuchElementException: there is none, another what.", EdgeSpanTest::boundOfNone);
        CHECK.sentence(16, "QUIET by the i-th BOUND BUTTON: how often a BUTTON.", EdgeSpanTest::howOften);
        CHECK.sentence(16, "NoSuchElementException: there is none such.", EdgeSpanTest::quietOfNone);
        CHECK.sentence(17, "The NUMBER of a LAMP in the SUM of the i-th BOUND LAMP.", EdgeSpanTest::numberOfLamp);
        CHECK.sentence(17, "NoSuchElementException likewise.", EdgeSpanTest::sumOfNone);
        CHECK.sentence(18, "The least BOUND LAMP (as the i-th) whose SUM shows WHY NOT", EdgeSpanTest::leastBoundLamp);
        CHECK.sentence(18, "NONE: there are rows that LEAD.", EdgeSpanTest::rowsLead);
    }

    /** The numbers of all that are bound, one behind the other. */
    private static String bound(LampHall x, int what) {
        StringBuilder row = new StringBuilder();
        for (int i = 0; i < x.bound(what, -1); i++) {
            row.append(i == 0 ? "" : " ").append(x.bound(what, i));
        }
        return row.toString();
    }

    private static String quiet(LampHall x, int i) {
        StringBuilder row = new StringBuilder();
        for (int button = 0; button < x.count(0); button++) {
            row.append(x.quiet(i, button));
        }
        return row.toString();
    }

    private static String sum(LampHall x, int i) {
        StringBuilder row = new StringBuilder();
        for (int lamp = 0; lamp < x.count(0); lamp++) {
            row.append(x.sum(i, lamp));
        }
        return row.toString();
    }

    private static void isBound(String text, int what, String want) {
        CHECK.due("bound of " + text, bound(CHECK.hall(text), what), want);
    }

    private static void sumOfLesser() {
        // What steps nothing is the sum of none: also the first.
        isBound("colours 2;net 1;", 0, "0");
        isBound("colours 2;net 3;button 1 at 1;", 0, "0 2");
        isBound("colours 2;net 1;self;", 0, "");
        // Of two that do alike the second is bound, whichever the text tells first.
        isBound("colours 2;net 2;button 1 at 0;button 0 at 0;", 0, "1");
        // Each some times, up to q - 1.
        isBound("colours 3;net 2;button 0 at 0;button 1 at 0 by 2;", 0, "1");
        isBound("colours 3;net 2;button 0 at 0 by 2;button 1 at 0;", 0, "1");
        isBound("colours 5;net 3;button 0 at 0 by 3;button 1 at 1 by 2;button 2 at 0 by 4;button 2 at 1;", 0, "2");
        isBound("colours 5;net 3;button 0 at 0 by 3;button 1 at 1 by 2;button 2 at 0 by 4;button 2 at 2;", 0, "");
        // Lesser ones alone: the first two are no sum of what stands behind them.
        isBound("colours 2;net 3;button 0 at 0;button 0 at 1;button 1 at 1;button 2 at 0;", 0, "2");
        // By the first and by the last of 36.
        isBound("colours 2;net 36;self;button 35 at 0;button 35 at 35;", 0, "35");
    }

    private static void neitherJammedNorBound() {
        isBound("colours 2;net 3;button 0 at 0;button 1 at 0;button 2 at 0;", 0, "1 2");
        isBound("colours 2;net 3;button 0 at 0;button 1 at 0;button 2 at 0;jam 0;", 0, "2");
        isBound("colours 2;net 3;button 0 at 0;button 1 at 0;button 2 at 0;jam 0;jam 1;", 0, "");
        isBound("colours 2;net 3;button 0 at 0;button 1 at 0;button 2 at 0;jam 1;", 0, "2");
        // A jammed one isn't bound itself, whatever it does.
        isBound("colours 2;net 3;jam 1;", 0, "0 2");
        LampHall x = CHECK.hall("colours 2;net 3;button 0 at 0;button 1 at 0;button 2 at 0;");
        CHECK.due("by the first alone, not by the bound one", quiet(x, 1), "101");
        x.jam(0, true);
        CHECK.due("bound behind a jam", bound(x, 0), "2");
        CHECK.due("by the second", quiet(x, 0), "011");
        x.jam(0, false);
        CHECK.due("bound as before", bound(x, 0), "1 2");
    }

    private static void ownWithoutJammed() {
        LampHall x = CHECK.hall("colours 3;net 4;self;button 3 at 0;");
        CHECK.due("own", x.rank(), 4);
        for (int button = 0; button < 4; button++) {
            x.jam(button, true);
            CHECK.due("own without " + (button + 1), x.rank(), 3 - button);
            CHECK.due("bound without", x.bound(0, -1), 0);
        }
        x.jam(2, false);
        CHECK.due("one again", x.rank(), 1);
    }

    private static void quietOnce() {
        CHECK.due("what steps nothing, alone", quiet(CHECK.hall("colours 5;net 2;button 0 at 0;"), 0), "01");
        // 1 by the first and 4 by the second are 5.
        CHECK.due("a sum", quiet(CHECK.hall("colours 5;net 2;button 0 at 0;button 1 at 0 by 4;"), 0), "11");
        CHECK.due("q - 1 times", quiet(CHECK.hall("colours 5;net 2;button 0 at 0;button 1 at 0;"), 0), "41");
        LampHall x = CHECK.hall("colours 3;net 5;button 0 at 4;button 1 at 4;button 2 at 3;button 4 at 4 by 2;button 4 at 3;"
            + "jam 3;");
        CHECK.due("bound", bound(x, 0), "1 4");
        CHECK.due("the first", quiet(x, 0), "21000");
        CHECK.due("the second, without the first and the jammed", quiet(x, 1), "10201");
    }

    private static void howManyOwn() {
        String[] texts = {"colours 2;net 36;", "colours 2;net 36;self;", "colours 5;net 1;self by 4;", "colours 2;net 1;jam 0;",
            "colours 2;board 5 5;self;side;", "colours 2;board 6 6;row;", "colours 2;board 2 1 ring;side;"};
        int[] ranks = {0, 36, 1, 0, 23, 6, 0};
        for (int i = 0; i < texts.length; i++) {
            CHECK.due("rank of " + texts[i], CHECK.hall(texts[i]).rank(), ranks[i]);
        }
    }

    private static void boundLamps() {
        // A lamp that nothing steps is the sum of none: also the first.
        isBound("colours 2;net 2;", 1, "0 1");
        isBound("colours 2;net 2;button 0 at 1;", 1, "0");
        isBound("colours 2;net 2;self;", 1, "");
        // Lamp 0 is stepped twice as far as lamp 1: the greater is bound.
        isBound("colours 3;net 2;button 1 at 0 by 2;button 1 at 1;", 1, "1");
        isBound("colours 3;net 3;button 0 at 0;button 1 at 1;button 0 at 2 by 2;button 1 at 2;", 1, "2");
        isBound("colours 2;net 36;self;button 35 at 0;jam 34;", 1, "34");
        LampHall x = CHECK.hall("colours 2;net 3;self;button 1 at 0;");
        CHECK.due("without a jam", bound(x, 1), "");
        x.jam(0, true);
        CHECK.due("button 1 alone steps lamps 0 and 1", bound(x, 1), "1");
        x.jam(1, true);
        CHECK.due("nothing steps them", bound(x, 1), "0 1");
        x.jam(2, true);
        CHECK.due("all are jammed", bound(x, 1), "0 1 2");
        x.jam(0, false);
        CHECK.due("one isn't any more", bound(x, 1), "1 2");
    }

    private static void sumOfOne() {
        CHECK.due("of what nothing steps", sum(CHECK.hall("colours 5;net 2;button 0 at 0;"), 0), "01");
        CHECK.due("of like lamps", sum(CHECK.hall("colours 5;net 2;button 0 at 0;button 0 at 1;"), 0), "41");
        CHECK.due("of lamps that make 5", sum(CHECK.hall("colours 5;net 2;button 0 at 0;button 0 at 1 by 4;"), 0), "11");
        LampHall x = CHECK.hall("colours 3;net 5;button 0 at 0;button 0 at 1;button 1 at 3;button 2 at 0;button 2 at 4 by 2;"
            + "button 0 at 4 by 2;button 4 at 2;button 1 at 4;jam 4;");
        // Lamps by buttons 0, 1, 2: 101, 100, 000, 010, 212; the last is twice the first and the fourth.
        CHECK.due("bound", bound(x, 1), "2 4");
        CHECK.due("the first", sum(x, 0), "00100");
        CHECK.due("the second, without the bound one", sum(x, 1), "10021");
    }

    private static void showsWhyNot() {
        LampHall x = CHECK.hall("colours 3;net 2;button 0 at 0;button 0 at 1;");
        CHECK.due("like rows", x.why(), -1);
        x.set(1, 1, 1);
        CHECK.due("the wish is more", x.why(), 0);
        x.set(1, 0, 1);
        CHECK.due("the state is as much", x.why(), -1);
        x.set(1, 0, 2);
        CHECK.due("the state is more", x.why(), 0);
        x.set(0, 0, 1);
        CHECK.due("of both lamps as much", x.why(), -1);
        // 2 of each of two lamps are 4, which is 1, not 0.
        LampHall y = CHECK.hall("colours 3;net 2;button 0 at 0;button 0 at 1 by 2;");
        y.fill(1, 2);
        CHECK.due("4 isn't 0", y.why(), 0);
        y.set(0, 1, 1);
        CHECK.due("3 is", y.why(), -1);
    }

    private static void rank() {
        CHECK.due("of no lamps", new LampHall().rank(), 0);
        LampHall x = CHECK.hall("colours 2;net 36;self;");
        CHECK.due("of 36", x.rank(), 36);
        x.jam(35, true);
        CHECK.due("without the last", x.rank(), 35);
        CHECK.due("of a text that follows", Check.tell(x, "colours 2;net 36;"), 0);
        CHECK.due("of nothing", x.rank(), 0);
        CHECK.due("of lamps in the state it knows nothing", x.fill(0, 1) && x.rank() == 0, true);
    }

    private static void ith() {
        LampHall x = CHECK.hall("colours 2;net 36;");
        CHECK.due("the first button", x.bound(0, 0), 0);
        CHECK.due("the last button", x.bound(0, 35), 35);
        CHECK.due("the first lamp", x.bound(1, 0), 0);
        CHECK.due("the last lamp", x.bound(1, 35), 35);
        LampHall y = CHECK.hall("colours 2;net 4;button 0 at 3;button 2 at 3;button 3 at 2;");
        CHECK.due("buttons", bound(y, 0), "1 2");
        CHECK.due("lamps", bound(y, 1), "0 1");
    }

    private static void howMany() {
        CHECK.due("buttons of none", new LampHall().bound(0, -1), 0);
        CHECK.due("lamps of none", new LampHall().bound(1, -1), 0);
        LampHall x = CHECK.hall("colours 2;net 36;jam 7;");
        CHECK.due("buttons without the jammed", x.bound(0, -1), 35);
        CHECK.due("lamps", x.bound(1, -1), 36);
        CHECK.due("none", CHECK.hall("colours 2;net 36;self;").bound(0, -1), 0);
    }

    private static void boundOfNone() {
        LampHall x = CHECK.hall("colours 2;net 3;button 0 at 0;button 1 at 0;");
        CHECK.due("the last bound button", x.bound(0, 1), 2);
        CHECK.due("the last bound lamp", x.bound(1, 1), 2);
        for (int i : new int[] {-2, 2, 3, 36, Integer.MIN_VALUE, Integer.MAX_VALUE}) {
            CHECK.none("bound(0, " + i + ")", () -> x.bound(0, i));
            CHECK.none("bound(1, " + i + ")", () -> x.bound(1, i));
        }
        for (int what : NO_WHATS) {
            CHECK.none("bound(" + what + ", 0)", () -> x.bound(what, 0));
            CHECK.none("bound(" + what + ", -1)", () -> x.bound(what, -1));
        }
        LampHall y = CHECK.hall("colours 2;net 3;self;");
        CHECK.none("bound(0, 0) where none is bound", () -> y.bound(0, 0));
        CHECK.none("bound(1, 0) where none is bound", () -> y.bound(1, 0));
        CHECK.none("bound(0, 0) of a new object", () -> new LampHall().bound(0, 0));
    }

    private static void howOften() {
        LampHall x = CHECK.hall("colours 5;net 36;button 0 at 7 by 2;button 35 at 7;");
        CHECK.due("bound", x.bound(0, -1), 35);
        // Twice 2 and 1 are 5.
        CHECK.due("the first button by the last", x.quiet(34, 0), 2);
        CHECK.due("the last once", x.quiet(34, 35), 1);
        CHECK.due("another", x.quiet(34, 34), 0);
        CHECK.due("the first bound one", x.quiet(0, 1), 1);
        CHECK.due("a greater one", x.quiet(0, 35), 0);
    }

    private static void quietOfNone() {
        LampHall x = CHECK.hall("colours 2;net 3;button 0 at 0;button 1 at 0;");
        CHECK.due("the last", quiet(x, 1), "001");
        for (int i : new int[] {-1, -2, 2, 3, 36, Integer.MIN_VALUE, Integer.MAX_VALUE}) {
            CHECK.none("quiet(" + i + ", 0)", () -> x.quiet(i, 0));
        }
        for (int button : NO_LAMP_OF_THREE) {
            CHECK.none("quiet(0, " + button + ")", () -> x.quiet(0, button));
            CHECK.none("quiet(2, " + button + ")", () -> x.quiet(2, button));
        }
        CHECK.none("where none is bound", () -> CHECK.hall("colours 2;net 3;self;").quiet(0, 0));
        CHECK.none("where all are jammed", () -> CHECK.hall("colours 2;net 1;jam 0;").quiet(0, 0));
    }

    private static void numberOfLamp() {
        LampHall x = CHECK.hall("colours 5;net 36;button 3 at 0 by 2;button 3 at 35;");
        CHECK.due("bound", x.bound(1, -1), 35);
        CHECK.due("the first lamp by the last", x.sum(34, 0), 2);
        CHECK.due("the last", x.sum(34, 35), 1);
        CHECK.due("another", x.sum(34, 34), 0);
        CHECK.due("the first bound one", x.sum(0, 1), 1);
        CHECK.due("a greater one", x.sum(0, 35), 0);
    }

    private static void sumOfNone() {
        LampHall x = CHECK.hall("colours 2;net 3;button 0 at 0;button 0 at 1;");
        CHECK.due("the last", sum(x, 1), "001");
        for (int i : new int[] {-1, -2, 2, 3, 36, Integer.MIN_VALUE, Integer.MAX_VALUE}) {
            CHECK.none("sum(" + i + ", 0)", () -> x.sum(i, 0));
        }
        for (int lamp : NO_LAMP_OF_THREE) {
            CHECK.none("sum(0, " + lamp + ")", () -> x.sum(0, lamp));
            CHECK.none("sum(2, " + lamp + ")", () -> x.sum(2, lamp));
        }
        CHECK.none("where none is bound", () -> CHECK.hall("colours 2;net 3;self;").sum(0, 0));
        CHECK.due("where all are jammed", CHECK.hall("colours 2;net 1;self;jam 0;").sum(0, 0), 1);
    }

    private static void leastBoundLamp() {
        LampHall x = CHECK.hall("colours 3;net 5;button 0 at 0;button 0 at 1;button 1 at 3;");
        CHECK.due("bound", bound(x, 1), "1 2 4");
        x.set(4, 1, 1);
        CHECK.due("the last", x.why(), 2);
        x.set(2, 1, 2);
        CHECK.due("two of them", x.why(), 1);
        x.set(0, 0, 2);
        CHECK.due("all of them", x.why(), 0);
        x.set(2, 1, 0);
        x.set(4, 1, 0);
        CHECK.due("the first", x.why(), 0);
        LampHall y = CHECK.hall("colours 2;net 36;");
        y.set(35, 0, 1);
        CHECK.due("the last of 36", y.why(), 35);
    }

    private static void rowsLead() {
        CHECK.due("of no lamps", new LampHall().why(), -1);
        LampHall x = CHECK.hall("colours 5;net 36;self;");
        x.draw(5);
        CHECK.due("nothing is bound", x.why(), -1);
        LampHall y = CHECK.hall("colours 2;net 3;");
        CHECK.due("all is bound, but nothing is wished", y.why(), -1);
        y.fill(0, 1);
        CHECK.due("something is", y.why(), 0);
        y.fill(1, 1);
        CHECK.due("nothing again", y.why(), -1);
        LampHall z = CHECK.hall("colours 2;net 2;self;");
        z.set(1, 1, 1);
        CHECK.due("a row leads", z.why(), -1);
        z.jam(1, true);
        CHECK.due("not with a jam", z.why(), 0);
        z.press(0);
        CHECK.due("nor behind a press", z.why(), 0);
        z.jam(1, false);
        CHECK.due("without the jam", z.why(), -1);
    }
}

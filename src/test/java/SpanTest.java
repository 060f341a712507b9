/** Promises 14 to 18: rank, bound buttons and lamps, quiet rows, sums, and why not. */
public final class SpanTest {
    private static final Check CHECK = new Check("SpanTest");

    public static void main(String[] args) {
        ranks();
        bound();
        quiet();
        sum();
        why();
        jams();
        bigHalls();
        CHECK.end();
    }

    private static void ranked(String text, int rank, int bound) {
        LampHall x = CHECK.hall(text);
        CHECK.due("rank of " + text, x.rank(), rank);
        CHECK.due("bound buttons of " + text, x.bound(0, -1), bound);
    }

    private static void ranks() {
        ranked("colours 2;board 5 5;self;side;", 23, 2);
        ranked("colours 2;board 4 4;self;side;", 12, 4);
        ranked("colours 2;board 6 6;self;side;", 36, 0);
        ranked("colours 2;net 36;", 0, 36);
        ranked("colours 5;net 36;self;", 36, 0);
        ranked("colours 3;board 6 6;row;", 6, 30);
        ranked("colours 3;board 6 6;row;column;", 10, 26);
        ranked("colours 5;board 6 6;row;column;", 11, 25);
        ranked("colours 3;net 3;self;jam 1;", 2, 0);
        ranked("colours 3;net 3;jam 1;", 0, 2);
    }

    private static void bound() {
        LampHall x = CHECK.hall("colours 3;net 5;button 1 at 0;button 1 at 4 by 2;button 2 at 0 by 2;"
            + "button 2 at 4;button 3 at 4;button 4 at 0;");
        int[] buttons = {0, 2, 4};
        for (int i = 0; i < 3; i++) {
            CHECK.due("bound(0, " + i + ")", x.bound(0, i), buttons[i]);
        }
        int[] lamps = {1, 2, 3};
        for (int i = 0; i < 3; i++) {
            CHECK.due("bound(1, " + i + ")", x.bound(1, i), lamps[i]);
        }
        CHECK.due("bound(0, NONE)", x.bound(0, -1), 3);
        CHECK.due("bound(1, NONE)", x.bound(1, -1), 3);
        for (int what = 0; what < 2; what++) {
            int which = what;
            for (int i : new int[] {3, -2, 36, Integer.MIN_VALUE, Integer.MAX_VALUE}) {
                CHECK.none("bound(" + what + ", " + i + ")", () -> x.bound(which, i));
            }
        }
        for (int what : new int[] {-1, 2, Integer.MIN_VALUE}) {
            CHECK.none("bound(" + what + ", NONE)", () -> x.bound(what, -1));
            CHECK.none("bound(" + what + ", 0)", () -> x.bound(what, 0));
        }
    }

    private static String quietRow(LampHall x, int i) {
        StringBuilder row = new StringBuilder();
        for (int button = 0; button < x.count(0); button++) {
            row.append(x.quiet(i, button));
        }
        return row.toString();
    }

    private static String sumRow(LampHall x, int i) {
        StringBuilder row = new StringBuilder();
        for (int lamp = 0; lamp < x.count(0); lamp++) {
            row.append(x.sum(i, lamp));
        }
        return row.toString();
    }

    private static void quiet() {
        LampHall x = CHECK.hall("colours 3;net 5;button 1 at 0;button 1 at 4 by 2;button 2 at 0 by 2;"
            + "button 2 at 4;button 3 at 4;button 4 at 0;");
        CHECK.due("of a button that does nothing", quietRow(x, 0), "10000");
        CHECK.due("of one that does the double", quietRow(x, 1), "01100");
        CHECK.due("of one by two others", quietRow(x, 2), "02021");
        for (int i : new int[] {3, -1, -2, Integer.MIN_VALUE}) {
            CHECK.none("quiet(" + i + ", 0)", () -> x.quiet(i, 0));
        }
        CHECK.none("quiet(0, 5)", () -> x.quiet(0, 5));
        CHECK.none("quiet(0, -1)", () -> x.quiet(0, -1));
    }

    private static void sum() {
        LampHall x = CHECK.hall("colours 5;net 4;button 0 at 0;button 0 at 1 by 2;button 0 at 3;"
            + "button 2 at 0 by 3;button 2 at 1;button 2 at 2;");
        CHECK.due("how many", x.bound(1, -1), 2);
        CHECK.due("lamp 1 is twice lamp 0", x.bound(1, 0), 1);
        CHECK.due("its sum", sumRow(x, 0), "3100");
        CHECK.due("the other", x.bound(1, 1), 3);
        // Lamp 0 has 1 and 3, lamp 2 has 0 and 1, lamp 3 has 1 and 0: lamp 3 is lamp 0 less 3 times lamp 2.
        CHECK.due("its sum", sumRow(x, 1), "4031");
        for (int i : new int[] {2, -1, -2, Integer.MAX_VALUE}) {
            CHECK.none("sum(" + i + ", 0)", () -> x.sum(i, 0));
        }
        CHECK.none("sum(0, 4)", () -> x.sum(0, 4));
        CHECK.none("sum(0, -1)", () -> x.sum(0, -1));
    }

    private static void why() {
        LampHall x = CHECK.hall("colours 3;net 4;button 0 at 0;button 0 at 1;button 2 at 2;button 2 at 3 by 2;");
        CHECK.due("why at first", x.why(), -1);
        CHECK.row(x, 0, "1100");
        CHECK.due("one press less", x.why(), -1);
        CHECK.row(x, 1, "0012");
        CHECK.due("with a wish", x.why(), -1);
        CHECK.row(x, 1, "0011");
        CHECK.due("the second sum", x.why(), 1);
        CHECK.row(x, 1, "0111");
        CHECK.due("the first sum", x.why(), 0);
        CHECK.row(x, 1, "0112");
        CHECK.due("the first sum", x.why(), 0);
    }

    private static void jams() {
        LampHall x = CHECK.hall("colours 2;board 2 1;self;side;");
        CHECK.due("bound", x.bound(0, 0), 1);
        x.jam(0, true);
        CHECK.due("not bound any more", x.bound(0, -1), 0);
        CHECK.due("lamp 1 still is", x.bound(1, 0), 1);
        x.jam(1, true);
        CHECK.due("none is bound, all are jammed", x.bound(0, -1), 0);
        CHECK.due("all lamps are", x.bound(1, -1), 2);
        CHECK.due("rank", x.rank(), 0);
        x.set(1, 0, 1);
        CHECK.due("why", x.why(), 1);
        x.jam(0, false);
        CHECK.due("why with one lamp free", x.why(), 0);
        CHECK.due("bound again", x.bound(0, -1), 0);
        x.jam(1, false);
        CHECK.due("bound again", x.bound(0, -1), 1);
    }

    /** What quiet rows and sums must be, of halls too large to go through all. */
    private static void bigHalls() {
        String[] texts = {"colours 2;board 5 5;self;side;", "colours 3;board 6 6 both;self;side;slant by 2;",
            "colours 5;board 6 6;row;column by 2;jam 7;jam 30;", "colours 3;board 6 5 ring;leap;jam 0;",
            "colours 5;board 5 5 both;self by 2;side;button 3 at 20 by 2;", "colours 2;net 36;side;wire 0 35;wire 35 1;"};
        for (String text : texts) {
            LampHall x = CHECK.hall(text);
            int n = x.count(0);
            int q = x.count(1);
            int bound = x.bound(0, -1);
            CHECK.due("rank and bound", x.rank() + bound, n - x.count(7));
            CHECK.due("rank and bound lamps", x.rank() + x.bound(1, -1), n);
            for (int i = 0; i < bound; i++) {
                checkQuiet(x, i, n, q);
            }
            for (int i = 0; i < x.bound(1, -1); i++) {
                checkSum(x, i, n, q);
            }
        }
    }

    private static boolean isBound(LampHall x, int what, int id) {
        for (int i = 0; i < x.bound(what, -1); i++) {
            if (x.bound(what, i) == id) {
                return true;
            }
        }
        return false;
    }

    private static void checkQuiet(LampHall x, int i, int n, int q) {
        int self = x.bound(0, i);
        for (int lamp = 0; lamp < n; lamp++) {
            int together = 0;
            for (int button = 0; button < n; button++) {
                together += x.quiet(i, button) * x.amount(button, lamp);
            }
            CHECK.due("a quiet row at a lamp", together % q, 0);
        }
        for (int button = 0; button < n; button++) {
            if (button == self) {
                CHECK.due("itself", x.quiet(i, button), 1);
            } else if (button > self || isBound(x, 0, button)) {
                CHECK.due("one that is not lesser or not own", x.quiet(i, button), 0);
            }
        }
    }

    private static void checkSum(LampHall x, int i, int n, int q) {
        int self = x.bound(1, i);
        for (int button = 0; button < n; button++) {
            int together = 0;
            for (int lamp = 0; lamp < n; lamp++) {
                together += x.sum(i, lamp) * x.amount(button, lamp);
            }
            boolean was = x.jam(button, false);
            x.jam(button, was);
            CHECK.due("a sum of a button", was ? 0 : together % q, 0);
        }
        for (int lamp = 0; lamp < n; lamp++) {
            if (lamp == self) {
                CHECK.due("itself", x.sum(i, lamp), 1);
            } else if (lamp > self || isBound(x, 1, lamp)) {
                CHECK.due("one that is not lesser or bound", x.sum(i, lamp), 0);
            }
        }
    }
}

/** Promises 19 to 25: solved rows, pressing them, what is needed, how hard, what is nearest. */
public final class SolveTest {
    private static final Check CHECK = new Check("SolveTest");

    public static void main(String[] args) {
        kinds();
        likeRows();
        noRow();
        spent();
        noneBeforeSpent();
        spentLimits();
        mostFreeButtons();
        times();
        apply();
        applyOfJammed();
        needed();
        bigBoard();
        hard();
        hardLimits();
        hardOfJams();
        nearest();
        nearestOfLike();
        nearestLimits();
        near();
        CHECK.end();
    }

    private static void solved(LampHall x, int kind, int many, String row) {
        CHECK.due("solve(" + kind + ")", x.solve(kind), many);
        CHECK.due("the row of kind " + kind, Check.times(x), row);
    }

    private static void kinds() {
        // Button 0 steps by 1, button 1 by 2, buttons 2 to 4 by 1 each, all the one lamp 0.
        LampHall x = CHECK.hall("colours 5;net 5;button 0 at 0;button 1 at 0 by 2;button 2 at 0;button 3 at 0;"
            + "button 4 at 0;");
        x.set(0, 1, 4);
        solved(x, 0, 2, "02000");
        solved(x, 1, 1, "00004");
        solved(x, 2, 3, "01011");
        x.set(0, 1, 3);
        solved(x, 0, 2, "01001");
        solved(x, 1, 1, "00003");
        solved(x, 2, 2, "01001");
        x.set(0, 0, 3);
        solved(x, 0, 0, "00000");
        solved(x, 1, 0, "00000");
        solved(x, 2, 0, "00000");
        for (int kind : new int[] {-1, 3, Integer.MIN_VALUE, Integer.MAX_VALUE}) {
            CHECK.none("solve(" + kind + ")", () -> x.solve(kind));
        }
    }

    private static void likeRows() {
        LampHall x = CHECK.hall("colours 2;board 2 1;self;side;");
        x.fill(0, 1);
        solved(x, 0, 1, "01");
        LampHall y = CHECK.hall("colours 3;net 3;button 0 at 0 by 2;button 1 at 0;button 2 at 0 by 2;");
        y.set(0, 1, 2);
        solved(y, 0, 1, "001");
        solved(y, 1, 1, "001");
        y.set(0, 1, 1);
        solved(y, 0, 1, "010");
        solved(y, 1, 1, "002");
        solved(y, 2, 1, "010");
        LampHall z = CHECK.hall("colours 2;board 4 4;self;side;");
        z.fill(0, 1);
        CHECK.due("4 by 4", z.solve(0), 4);
        CHECK.due("its row", Check.times(z), "0010100000010100");
    }

    private static void noRow() {
        LampHall x = CHECK.hall("colours 3;net 3;button 0 at 0;button 1 at 1;button 2 at 1;");
        x.set(0, 1, 2);
        solved(x, 0, 2, "200");
        CHECK.due("each at most once", x.solve(2), -1);
        CHECK.due("the row stays", Check.times(x), "200");
        x.set(1, 1, 2);
        x.set(0, 1, 1);
        solved(x, 2, 3, "111");
        x.set(2, 1, 1);
        for (int kind = 0; kind < 3; kind++) {
            CHECK.due("no row leads", x.solve(kind), -1);
            CHECK.due("the row stays", Check.times(x), "111");
        }
    }

    private static void spent() {
        LampHall x = CHECK.hall("colours 2;net 15;");
        for (int kind = 0; kind < 3; kind++) {
            CHECK.due("spent", x.solve(kind), -2);
        }
        CHECK.none("nothing is kept", () -> x.times(0));
        CHECK.due("apply", x.apply(), -1);
        x.jam(3, true);
        CHECK.due("with a jam", x.solve(0), 0);
        CHECK.due("times", x.times(3), 0);
        x.jam(3, false);
        CHECK.due("spent again", x.solve(1), -2);
        CHECK.due("the row stays", x.times(3), 0);
        CHECK.none("another kind", () -> x.solve(3));
    }

    private static void noneBeforeSpent() {
        LampHall x = CHECK.hall("colours 2;net 15;");
        x.set(4, 0, 1);
        for (int kind = 0; kind < 3; kind++) {
            CHECK.due("no row leads, spent or not", x.solve(kind), -1);
        }
    }

    private static void spentLimits() {
        int[][] most = {{2, 14}, {3, 9}, {5, 6}};
        for (int[] one : most) {
            LampHall x = CHECK.hall("colours " + one[0] + ";net " + one[1] + ";");
            CHECK.due("not spent yet", x.solve(1), 0);
            LampHall y = CHECK.hall("colours " + one[0] + ";net " + (one[1] + 1) + ";");
            CHECK.due("spent", y.solve(1), -2);
        }
    }

    private static void mostFreeButtons() {
        LampHall x = CHECK.hall("colours 2;net 16;button 13 at 0;button 13 at 1;button 14 at 1;button 15 at 0;");
        CHECK.due("bound", x.bound(0, -1), 14);
        x.set(0, 1, 1);
        x.set(1, 1, 1);
        solved(x, 0, 1, "0000000000000100");
        LampHall y = CHECK.hall("colours 2;net 16;button 0 at 0;button 0 at 1;button 14 at 1;button 15 at 0;");
        y.set(0, 1, 1);
        y.set(1, 1, 1);
        solved(y, 0, 1, "1000000000000000");
    }

    private static void times() {
        LampHall x = CHECK.hall("colours 3;net 2;self;");
        CHECK.none("none is kept", () -> x.times(0));
        CHECK.row(x, 0, "12");
        solved(x, 0, 3, "21");
        x.fill(0, 0);
        x.jam(0, true);
        CHECK.due("it is kept", Check.times(x), "21");
        for (int button : new int[] {-1, 2, Integer.MAX_VALUE}) {
            CHECK.none("times(" + button + ")", () -> x.times(button));
        }
    }

    private static void apply() {
        LampHall x = CHECK.hall("colours 3;net 3;self;");
        CHECK.due("nothing is kept", x.apply(), -1);
        CHECK.row(x, 1, "201");
        CHECK.due("solve", x.solve(0), 3);
        CHECK.due("apply", x.apply(), 3);
        CHECK.due("state", Check.colours(x, 0), "201");
        CHECK.due("presses", x.count(5), 3);
        CHECK.due("apply again", x.apply(), 3);
        CHECK.due("state", Check.colours(x, 0), "102");
        int[] back = {2, 0, 0, 2, 0, 0, -1};
        for (int button : back) {
            CHECK.due("back", x.back(), button);
        }
    }

    private static void applyOfJammed() {
        LampHall x = CHECK.hall("colours 3;net 3;self;");
        CHECK.row(x, 1, "212");
        x.solve(0);
        x.jam(0, true);
        CHECK.due("apply", x.apply(), 3);
        CHECK.due("state", Check.colours(x, 0), "012");
        CHECK.due("presses", x.count(5), 3);
        LampHall y = CHECK.hall("colours 5;net 36;self;");
        y.fill(1, 4);
        CHECK.due("solve", y.solve(0), 144);
        CHECK.due("apply", y.apply(), 144);
        CHECK.due("presses", y.count(5), 100);
        for (int i = 0; i < 100; i++) {
            y.back();
        }
        CHECK.due("state", Check.colours(y, 0), "4".repeat(11) + "0".repeat(25));
    }

    private static void needed() {
        LampHall x = CHECK.hall("colours 3;net 4;button 0 at 0;button 1 at 1;button 2 at 1 by 2;button 3 at 2;");
        CHECK.due("needed at first", x.needed(0), 0);
        CHECK.due("free", x.needed(1), 2);
        CHECK.row(x, 0, "1110");
        CHECK.due("needed", x.needed(0), 2);
        CHECK.due("free", x.needed(1), 2);
        x.jam(2, true);
        CHECK.due("needed with a jam", x.needed(0), 3);
        CHECK.due("free with a jam", x.needed(1), 0);
        x.jam(3, true);
        CHECK.due("no row leads", x.needed(0), -1);
        CHECK.due("no row leads", x.needed(1), -1);
        for (int what : new int[] {-1, 2, Integer.MIN_VALUE}) {
            CHECK.none("needed(" + what + ")", () -> x.needed(what));
        }
        LampHall y = CHECK.hall("colours 2;net 36;");
        CHECK.due("it is never spent", y.needed(1), 36);
    }

    private static void bigBoard() {
        LampHall x = CHECK.hall("colours 2;board 5 5;self;side;");
        x.fill(0, 1);
        CHECK.due("all of 5 by 5", x.solve(0), 15);
        CHECK.due("row", Check.times(x), "0001111011111000111010110");
        CHECK.due("apply", x.apply(), 15);
        CHECK.due("state", Check.colours(x, 0), "0".repeat(25));
        LampHall y = CHECK.hall("colours 2;board 6 6;self;side;");
        y.fill(0, 1);
        CHECK.due("all of 6 by 6", y.solve(0), 28);
        CHECK.due("needed", y.needed(0), 28);
    }

    private static void hard() {
        LampHall x = CHECK.hall("colours 3;net 8;self;");
        CHECK.due("the most", x.hard(-1), 16);
        CHECK.due("0", x.hard(0), 1);
        CHECK.due("1", x.hard(1), 8);
        CHECK.due("2", x.hard(2), 36);
        CHECK.due("16", x.hard(16), 1);
        for (int k : new int[] {17, 63, 64, 1000, -2, Integer.MAX_VALUE, Integer.MIN_VALUE}) {
            CHECK.due("hard(" + k + ")", x.hard(k), 0);
        }
        LampHall y = CHECK.hall("colours 5;net 3;button 0 at 0;button 1 at 0 by 4;button 2 at 0 by 2;");
        // 1 and 4 and 2 by one press, 3 by two.
        CHECK.due("1", y.hard(1), 3);
        CHECK.due("2", y.hard(2), 1);
        CHECK.due("the most", y.hard(-1), 2);
    }

    private static void hardLimits() {
        LampHall x = CHECK.hall("colours 2;net 13;self;");
        CHECK.due("the most", x.hard(-1), 13);
        CHECK.due("6", x.hard(6), 1716);
        int[][] most = {{2, 13}, {3, 8}, {5, 5}};
        for (int[] one : most) {
            String text = "colours " + one[0] + ";board 6 6;";
            LampHall y = CHECK.hall(text + diagonal(one[1]));
            CHECK.due("not too many", y.hard(-1), one[1] * (one[0] - 1));
            LampHall z = CHECK.hall(text + diagonal(one[1] + 1));
            CHECK.due("too many", z.hard(-1), -2);
            CHECK.due("too many", z.hard(3), -2);
            CHECK.due("too many", z.hard(-5), -2);
        }
    }

    private static String diagonal(int many) {
        StringBuilder text = new StringBuilder();
        for (int i = 0; i < many; i++) {
            text.append("button ").append(i).append(" at ").append(35 - i).append(';');
        }
        return text.toString();
    }

    private static void hardOfJams() {
        LampHall x = CHECK.hall("colours 2;net 3;self;button 2 at 0;button 2 at 1;");
        CHECK.due("the most", x.hard(-1), 3);
        CHECK.due("1", x.hard(1), 3);
        CHECK.due("2", x.hard(2), 3);
        x.jam(2, true);
        CHECK.due("the most with a jam", x.hard(-1), 2);
        CHECK.due("1", x.hard(1), 2);
        x.jam(0, true);
        CHECK.due("the most with two jams", x.hard(-1), 1);
        x.lit(0);
        CHECK.due("it stays", x.hard(-1), 1);
        x.fill(0, 1);
        CHECK.due("lit", x.lit(2), 2);
        CHECK.due("it stays", x.hard(1), 1);
        CHECK.due("lit stays", x.lit(2), 2);
        x.jam(0, false);
        CHECK.due("hard anew", x.hard(1), 2);
        CHECK.due("lit anew", x.lit(2), 4);
    }

    private static String near(LampHall x) {
        StringBuilder row = new StringBuilder();
        for (int lamp = 0; lamp < x.count(0); lamp++) {
            row.append(x.near(lamp));
        }
        return row.toString();
    }

    private static void nearest() {
        LampHall x = CHECK.hall("colours 3;net 4;button 0 at 0;button 0 at 1;button 0 at 2 by 2;");
        CHECK.row(x, 1, "1122");
        CHECK.due("nearest", x.nearest(), 1);
        CHECK.due("it", near(x), "1120");
        CHECK.due("the state stays", Check.colours(x, 0), "0000");
        CHECK.row(x, 0, "0102");
        CHECK.due("it is kept", near(x), "1120");
        CHECK.due("nearest", x.nearest(), 1);
        CHECK.due("it", near(x), "1222");
    }

    private static void nearestOfLike() {
        LampHall x = CHECK.hall("colours 5;net 2;button 1 at 0;button 1 at 1 by 2;");
        x.set(1, 0, 1);
        // 01 13 20 32 44: to 23 are 20 and 13 one off, of which 13 is first.
        CHECK.row(x, 1, "23");
        CHECK.due("nearest", x.nearest(), 1);
        CHECK.due("it", near(x), "13");
        x.jam(1, true);
        CHECK.due("nearest with a jam", x.nearest(), 2);
        CHECK.due("it", near(x), "01");
    }

    private static void nearestLimits() {
        int[][] most = {{2, 13}, {3, 8}, {5, 5}};
        for (int[] one : most) {
            String text = "colours " + one[0] + ";board 6 6;";
            LampHall x = CHECK.hall(text + diagonal(one[1]));
            x.fill(1, 1);
            CHECK.due("not too many", x.nearest(), 36 - one[1]);
            CHECK.due("it", near(x), "0".repeat(36 - one[1]) + "1".repeat(one[1]));
            Check.tell(x, text + diagonal(one[1] + 1));
            CHECK.due("too many", x.nearest(), -2);
            CHECK.none("nothing is kept", () -> x.near(0));
        }
        LampHall y = CHECK.hall("colours 2;net 14;self;jam 0;");
        y.fill(1, 1);
        CHECK.due("nearest", y.nearest(), 1);
        y.jam(0, false);
        CHECK.due("too many", y.nearest(), -2);
        CHECK.due("what is kept stays", near(y), "01111111111111");
    }

    private static void near() {
        LampHall x = CHECK.hall("colours 2;net 2;self;");
        CHECK.none("nothing is kept", () -> x.near(0));
        x.nearest();
        CHECK.due("near", x.near(1), 0);
        for (int lamp : new int[] {-1, 2, Integer.MIN_VALUE}) {
            CHECK.none("near(" + lamp + ")", () -> x.near(lamp));
        }
    }
}

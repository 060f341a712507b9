/** Each sentence of promises 19 to 25, and of the terms they stand on, that names a boundary case. */
public final class EdgeSolveTest {
    private static final Check CHECK = new Check("EdgeSolveTest");
    private static final int[] NO_WHATS = {-1, 2, 3, Integer.MIN_VALUE, Integer.MAX_VALUE};
    private static final int[] NO_LAMP_OF_THREE = {-1, 3, 35, 36, Integer.MIN_VALUE, Integer.MAX_VALUE};
    /** Of each q: the highest power that is at most 20,000, and that at most 10,000. */
    private static final int[][] POWERS = {{2, 14, 13, 8192}, {3, 9, 8, 6561}, {5, 6, 5, 3125}};

    public static void main(String[] args) {
        solvedRows();
        neededAndHard();
        solve();
        others();
        CHECK.end();
    }

    private static void solvedRows() {
        CHECK.sentence(0, "A row of NUMBERS (0 to q - 1 of each BUTTON; 0 of JAMMED ones) LEADS, if with so many presses of each"
            + " THE STATE becomes THE WISH.", EdgeSolveTest::leads);
        CHECK.sentence(0, "SOLVED, by a kind: of rows that LEAD 0 that of fewest presses together", EdgeSolveTest::fewestPresses);
        CHECK.sentence(0, "1 of fewest BUTTONS (not 0)", EdgeSolveTest::fewestButtons);
        CHECK.sentence(0, "2 of those with 0 and 1 alone that of fewest", EdgeSolveTest::zeroAndOneAlone);
        CHECK.sentence(0, "of like ones the first as a row. SPENT", EdgeSolveTest::firstAsARow);
        CHECK.sentence(0, "SPENT: q to the power of how many are BOUND is more than 20,000.", EdgeSolveTest::moreThan20000);
    }

    private static void neededAndHard() {
        CHECK.sentence(0, "NEEDED are BUTTONS that aren't 0 in any row that LEADS", EdgeSolveTest::not0InAny);
        CHECK.sentence(0, "FREE those that aren't the same in all.", EdgeSolveTest::notTheSameInAll);
        CHECK.sentence(0, "HARD: how many presses a difference of STATES needs at least (of 0: none)", EdgeSolveTest::of0None);
        CHECK.sentence(0, "for each number how many differences that can be made need it", EdgeSolveTest::differencesMade);
        CHECK.sentence(0, "asked of q to the power of RANK at most 10,000.", EdgeSolveTest::atMost10000);
        CHECK.sentence(0, "NEAREST: of all STATES that can be made of THE STATE (as many at most)", EdgeSolveTest::asManyAtMost);
        CHECK.sentence(0, "that in which fewest LAMPS are unlike THE WISH", EdgeSolveTest::fewestUnlike);
        CHECK.sentence(0, "fewest LAMPS are unlike THE WISH, of like ones the first as a row.", EdgeSolveTest::nearestOfLike);
    }

    private static void solve() {
        CHECK.sentence(19, "SOLVED by a kind: how many presses (of 1: BUTTONS); the row is kept.", EdgeSolveTest::rowIsKept);
        CHECK.sentence(19, "NONE: there is none", EdgeSolveTest::noRow);
        CHECK.sentence(19, "-2: SPENT", EdgeSolveTest::spent);
        CHECK.sentence(19, "(of both what is kept stays)", EdgeSolveTest::keptStays);
        CHECK.sentence(19, "NoSuchElementException: another kind.", EdgeSolveTest::anotherKind);
        CHECK.sentence(20, "How often a BUTTON is pressed in the row that is kept.", EdgeSolveTest::times);
        CHECK.sentence(20, "NoSuchElementException: also none is kept.", EdgeSolveTest::timesOfNone);
        CHECK.sentence(21, "The row that is kept is pressed: how many presses were made", EdgeSolveTest::apply);
        CHECK.sentence(21, "(they can be taken back; JAMMED ones aren't pressed)", EdgeSolveTest::applyOfJammed);
        CHECK.sentence(21, "NONE: none is kept.", EdgeSolveTest::applyOfNone);
    }

    private static void others() {
        CHECK.sentence(22, "How many BUTTONS are NEEDED (what 0), FREE (1)", EdgeSolveTest::needed);
        CHECK.sentence(22, "NONE: no row LEADS.", EdgeSolveTest::noRowLeads);
        CHECK.sentence(22, "NoSuchElementException: another what.", EdgeSolveTest::neededOfAnother);
        CHECK.sentence(23, "How many differences need k presses", EdgeSolveTest::needK);
        CHECK.sentence(23, "k NONE: the most presses that one needs.", EdgeSolveTest::mostPresses);
        CHECK.sentence(23, "-2: too many.", EdgeSolveTest::hardTooMany);
        CHECK.sentence(24, "NEAREST: how many LAMPS are unlike; it is kept.", EdgeSolveTest::nearestIsKept);
        CHECK.sentence(24, "-2: too many (what is kept stays).", EdgeSolveTest::nearestTooMany);
        CHECK.sentence(25, "COLOUR of a LAMP in the NEAREST that is kept.", EdgeSolveTest::near);
        CHECK.sentence(25, "NoSuchElementException: also none is kept.", EdgeSolveTest::nearOfNone);
    }

    private static void solved(LampHall x, int kind, int many, String row) {
        CHECK.due("solve(" + kind + ")", x.solve(kind), many);
        CHECK.due("the row of kind " + kind, Check.times(x), row);
    }

    /** All of so many buttons step lamp 0 by 1, so that all but the first are bound. */
    private static String allAtOne(int q, int buttons) {
        StringBuilder text = new StringBuilder("colours " + q + ";net " + buttons + ";");
        for (int button = 0; button < buttons; button++) {
            text.append("button ").append(button).append(" at 0;");
        }
        return text.toString();
    }

    /** So many of 36 buttons are own ones. */
    private static String ownOnes(int q, int own) {
        StringBuilder text = new StringBuilder("colours " + q + ";board 6 6;");
        for (int button = 0; button < own; button++) {
            text.append("button ").append(button).append(" at ").append(35 - button).append(';');
        }
        return text.toString();
    }

    private static void leads() {
        for (int q : new int[] {2, 3, 5}) {
            LampHall x = CHECK.hall("colours " + q + ";net 1;self;");
            for (int often = 0; often < q; often++) {
                x.set(0, 1, often);
                solved(x, 0, often, "" + often);
            }
            x.set(0, 0, 1);
            x.set(0, 1, 0);
            solved(x, 0, q - 1, "" + (q - 1));
        }
        LampHall y = CHECK.hall("colours 2;net 3;button 0 at 0;button 1 at 0;self;button 2 at 0;button 2 at 2;");
        // Buttons 0, 1 and 2 step nothing, lamps 0 and 1, and lamp 0.
        y.set(0, 1, 1);
        solved(y, 0, 1, "001");
        y.jam(2, true);
        CHECK.due("jammed ones are 0", y.solve(0), -1);
        y.set(1, 1, 1);
        solved(y, 0, 1, "010");
        y.jam(1, true);
        CHECK.due("jammed ones are 0", y.solve(0), -1);
    }

    private static void fewestPresses() {
        // Button 0 by 1, button 1 by 2, button 2 by 4: 3 is 1 + 2, or 3 times 1, or 4 times 2, or 2 times 4.
        LampHall x = CHECK.hall("colours 5;net 3;button 0 at 0;button 1 at 0 by 2;button 2 at 0 by 4;");
        int[] fewest = {0, 1, 1, 2, 1};
        String[] rows = {"000", "100", "010", "002", "001"};
        for (int colour = 0; colour < 5; colour++) {
            x.set(0, 1, colour);
            solved(x, 0, fewest[colour], rows[colour]);
        }
        LampHall y = CHECK.hall("colours 5;net 36;self;");
        y.fill(1, 4);
        solved(y, 0, 144, "4".repeat(36));
    }

    private static void fewestButtons() {
        // 3 by button 0 alone is 3 presses, by buttons 0 and 1 two.
        LampHall x = CHECK.hall("colours 5;net 2;button 0 at 0;button 1 at 0 by 2;");
        x.set(0, 1, 3);
        solved(x, 1, 1, "04");
        x.set(0, 1, 0);
        solved(x, 1, 0, "00");
        LampHall y = CHECK.hall("colours 5;net 36;self;");
        y.fill(1, 4);
        solved(y, 1, 36, "4".repeat(36));
        LampHall z = CHECK.hall("colours 3;net 3;button 0 at 0;button 0 at 1;button 1 at 0;button 2 at 1;");
        CHECK.row(z, 1, "220");
        solved(z, 1, 1, "200");
    }

    private static void zeroAndOneAlone() {
        LampHall x = CHECK.hall(allAtOne(5, 4));
        int[] fewest = {0, 1, 2, 3, 4};
        String[] rows = {"0000", "0001", "0011", "0111", "1111"};
        for (int colour = 0; colour < 5; colour++) {
            x.set(0, 1, colour);
            solved(x, 2, fewest[colour], rows[colour]);
        }
        x.jam(0, true);
        x.set(0, 1, 3);
        solved(x, 2, 3, "0111");
        x.set(0, 1, 4);
        CHECK.due("not so many buttons", x.solve(2), -1);
        CHECK.due("each more than once", x.solve(0), 4);
        LampHall y = CHECK.hall("colours 3;net 1;self;");
        y.set(0, 1, 2);
        CHECK.due("twice", y.solve(2), -1);
        y.set(0, 1, 1);
        solved(y, 2, 1, "1");
        LampHall z = CHECK.hall("colours 2;board 5 5;self;side;");
        z.fill(0, 1);
        CHECK.due("of two colours all rows are so", z.solve(2), z.solve(0));
    }

    private static void firstAsARow() {
        LampHall x = CHECK.hall(allAtOne(3, 3));
        x.set(0, 1, 1);
        for (int kind = 0; kind < 3; kind++) {
            solved(x, kind, 1, "001");
        }
        x.set(0, 1, 2);
        solved(x, 0, 2, "002");
        solved(x, 1, 1, "002");
        solved(x, 2, 2, "011");
        x.jam(2, true);
        solved(x, 0, 2, "020");
        solved(x, 2, 2, "110");
        LampHall y = CHECK.hall("colours 2;net 4;button 0 at 0;button 0 at 1;button 1 at 0;button 2 at 1;button 3 at 0;"
            + "button 3 at 1;");
        CHECK.row(y, 1, "1100");
        solved(y, 0, 1, "0001");
        y.set(0, 1, 0);
        // The third alone; 1 and 0 as much, but of two buttons.
        solved(y, 0, 1, "0010");
        LampHall z = CHECK.hall("colours 2;board 4 4;self;side;");
        z.fill(0, 1);
        solved(z, 0, 4, "0010100000010100");
    }

    private static void moreThan20000() {
        for (int[] power : POWERS) {
            LampHall x = CHECK.hall(allAtOne(power[0], power[1] + 1));
            CHECK.due("bound", x.bound(0, -1), power[1]);
            x.set(0, 1, 1);
            for (int kind = 0; kind < 3; kind++) {
                solved(x, kind, 1, "0".repeat(power[1]) + "1");
            }
            LampHall y = CHECK.hall(allAtOne(power[0], power[1] + 2));
            y.set(0, 1, 1);
            for (int kind = 0; kind < 3; kind++) {
                CHECK.due("one more is spent", y.solve(kind), -2);
            }
            y.jam(0, true);
            solved(y, 0, 1, "0".repeat(power[1] + 1) + "1");
        }
        LampHall z = CHECK.hall("colours 5;net 36;self;");
        z.fill(1, 1);
        CHECK.due("own ones don't count", z.solve(0), 36);
        for (int[] power : POWERS) {
            mostBoundAllSought(power[0], power[1]);
        }
    }

    /** So many are bound as may be: of those that may be pressed or not the last does at once what two others do. */
    private static void mostBoundAllSought(int q, int bound) {
        StringBuilder text = new StringBuilder("colours " + q + ";net " + (bound + 2) + ";");
        for (int button = 0; button <= bound; button++) {
            text.append("button ").append(button).append(" at 0;");
        }
        text.append("button ").append(bound - 1).append(" at 1;button ").append(bound + 1).append(" at 1;");
        LampHall x = CHECK.hall(text.toString());
        CHECK.due("bound", x.bound(0, -1), bound);
        x.set(0, 1, 1);
        x.set(1, 1, 1);
        for (int kind = 0; kind < 3; kind++) {
            solved(x, kind, 1, "0".repeat(bound - 1) + "100");
        }
    }

    private static void not0InAny() {
        LampHall x = CHECK.hall("colours 3;net 4;button 0 at 0;button 1 at 1;button 2 at 1;button 3 at 2;");
        CHECK.due("0 leads", x.needed(0), 0);
        x.set(0, 1, 1);
        CHECK.due("the first", x.needed(0), 1);
        x.set(1, 1, 1);
        CHECK.due("none of two that do alike", x.needed(0), 1);
        x.set(2, 1, 2);
        CHECK.due("the last, too", x.needed(0), 2);
        x.jam(1, true);
        CHECK.due("of two that do alike the other", x.needed(0), 3);
        LampHall y = CHECK.hall("colours 5;net 36;self;");
        y.fill(0, 4);
        CHECK.due("all", y.needed(0), 36);
    }

    private static void notTheSameInAll() {
        LampHall x = CHECK.hall("colours 3;net 4;button 0 at 0;button 1 at 1;button 2 at 1;button 3 at 2;");
        CHECK.due("two that do alike", x.needed(1), 2);
        x.set(0, 1, 1);
        CHECK.due("whatever is wished", x.needed(1), 2);
        x.jam(1, true);
        CHECK.due("jammed ones are the same", x.needed(1), 0);
        CHECK.due("all of 36 that do nothing", CHECK.hall("colours 2;net 36;").needed(1), 36);
        CHECK.due("none of 36 by themselves", CHECK.hall("colours 2;net 36;self;").needed(1), 0);
    }

    private static void of0None() {
        for (String text : new String[] {"colours 2;net 36;", "colours 5;net 3;self;", "colours 2;net 3;self;jam 0;jam 1;jam 2;"}) {
            CHECK.due("of 0 of " + text, CHECK.hall(text).hard(0), 1);
        }
        CHECK.due("of no lamps", new LampHall().hard(0), 1);
        // 1 by one press, 4 by four: no press goes back.
        LampHall x = CHECK.hall("colours 5;net 1;self;");
        for (int k = 0; k < 5; k++) {
            CHECK.due("k " + k, x.hard(k), 1);
        }
        LampHall y = CHECK.hall("colours 5;net 2;button 0 at 0;button 1 at 0 by 3;");
        // 1 and 3 by one, 2 and 4 by two (3 and 3 are 1, 1 and 1, 3 and 1).
        CHECK.due("one", y.hard(1), 2);
        CHECK.due("two", y.hard(2), 2);
    }

    private static void differencesMade() {
        // Whatever THE STATE and THE WISH are: of four lamps two can be stepped.
        LampHall x = CHECK.hall("colours 2;net 4;button 0 at 3;button 1 at 2;button 2 at 2;");
        for (int i = 0; i < 2; i++) {
            CHECK.due("none", x.hard(0), 1);
            CHECK.due("one", x.hard(1), 2);
            CHECK.due("two", x.hard(2), 1);
            CHECK.due("three", x.hard(3), 0);
            x.draw(7);
            x.fill(1, 1);
        }
        // Each lamp alone or both at once: as many presses as the more of the two.
        LampHall y = CHECK.hall("colours 5;net 3;button 0 at 0;button 1 at 1;button 2 at 0;button 2 at 1;");
        for (int k = 0; k < 5; k++) {
            CHECK.due("both at once, " + k, y.hard(k), 2 * k + 1);
        }
        CHECK.due("the most", y.hard(-1), 4);
    }

    private static void atMost10000() {
        for (int[] power : POWERS) {
            LampHall x = CHECK.hall(ownOnes(power[0], power[2]));
            int together = 0;
            for (int k = 0; k <= 30; k++) {
                together += x.hard(k);
            }
            CHECK.due("all differences", together, power[3]);
            LampHall y = CHECK.hall(ownOnes(power[0], power[2] + 1));
            CHECK.due("one more own one", y.hard(0), -2);
            y.jam(0, true);
            CHECK.due("a jammed one isn't own", y.hard(0), 1);
        }
        // 36 buttons of which 13 are own: six rows, and seven that step one lamp more.
        LampHall z = CHECK.hall("colours 2;board 6 6;row;button 1 at 6;button 2 at 7;button 3 at 8;button 4 at 9;"
            + "button 5 at 10;button 7 at 12;button 8 at 13;");
        int together = 0;
        for (int k = 0; k <= 30; k++) {
            together += z.hard(k);
        }
        CHECK.due("rank", z.rank(), 13);
        CHECK.due("all differences", together, 8192);
        CHECK.due("of one press", z.hard(1), 13);
    }

    private static void asManyAtMost() {
        for (int[] power : POWERS) {
            LampHall x = CHECK.hall(ownOnes(power[0], power[2]));
            x.fill(1, 1);
            CHECK.due("nearest", x.nearest(), 36 - power[2]);
            CHECK.due("it", Check.nearest(x), "0".repeat(36 - power[2]) + "1".repeat(power[2]));
            CHECK.due("one more own one", CHECK.hall(ownOnes(power[0], power[2] + 1)).nearest(), -2);
        }
        LampHall y = CHECK.hall("colours 5;net 36;");
        y.fill(0, 3);
        CHECK.due("THE STATE alone", y.nearest(), 36);
        CHECK.due("it", Check.nearest(y), "3".repeat(36));
        y.fill(1, 3);
        CHECK.due("as wished", y.nearest(), 0);
    }

    private static void fewestUnlike() {
        LampHall x = CHECK.hall("colours 3;net 4;button 2 at 0;button 2 at 1;button 2 at 2 by 2;");
        CHECK.row(x, 1, "2210");
        CHECK.due("all as wished", x.nearest(), 0);
        CHECK.due("it", Check.nearest(x), "2210");
        CHECK.row(x, 1, "1120");
        CHECK.row(x, 0, "2001");
        // 2001, 0121, 1211: unlike are 4, 2, 3.
        CHECK.due("nearest", x.nearest(), 2);
        CHECK.due("it", Check.nearest(x), "0121");
        x.jam(2, true);
        CHECK.due("nothing can be made", x.nearest(), 4);
        CHECK.due("it", Check.nearest(x), "2001");
    }

    private static void nearestOfLike() {
        LampHall x = CHECK.hall("colours 3;net 2;button 1 at 0;button 1 at 1;");
        // 02, 10, 21: to 22 are 02 and 21 one off; to 00 are 02 and 10.
        CHECK.row(x, 0, "21");
        CHECK.row(x, 1, "22");
        CHECK.due("nearest", x.nearest(), 1);
        CHECK.due("the first as a row", Check.nearest(x), "02");
        CHECK.row(x, 1, "00");
        CHECK.due("nearest", x.nearest(), 1);
        CHECK.due("the first as a row", Check.nearest(x), "02");
        LampHall y = CHECK.hall("colours 2;net 3;button 0 at 0;button 0 at 1;button 2 at 1;button 2 at 2;");
        // 000, 110, 011, 101: to 111 each but 000 is one off.
        y.fill(1, 1);
        CHECK.due("nearest", y.nearest(), 1);
        CHECK.due("the first as a row", Check.nearest(y), "011");
    }

    private static void rowIsKept() {
        LampHall x = CHECK.hall("colours 5;net 3;self;");
        CHECK.row(x, 1, "304");
        solved(x, 0, 7, "304");
        solved(x, 1, 2, "304");
        x.fill(1, 0);
        CHECK.due("it is kept", Check.times(x), "304");
        solved(x, 0, 0, "000");
        CHECK.due("no press was made", x.count(5), 0);
        CHECK.due("state", Check.colours(x, 0), "000");
        LampHall none = new LampHall();
        CHECK.due("of no lamps", none.solve(0), 0);
        CHECK.due("the row of no buttons is kept", none.apply(), 0);
    }

    private static void noRow() {
        LampHall x = CHECK.hall("colours 3;net 2;button 0 at 0;");
        x.set(1, 1, 1);
        for (int kind = 0; kind < 3; kind++) {
            CHECK.due("no row leads", x.solve(kind), -1);
        }
        CHECK.none("nothing is kept", () -> x.times(0));
        x.set(1, 1, 0);
        x.set(0, 1, 2);
        CHECK.due("none of 0 and 1 alone", x.solve(2), -1);
        CHECK.none("nothing is kept", () -> x.times(0));
        CHECK.due("there is one", x.solve(1), 1);
        LampHall y = CHECK.hall("colours 2;net 20;");
        y.set(19, 0, 1);
        CHECK.due("there is none, however many are bound", y.solve(0), -1);
    }

    private static void spent() {
        LampHall x = CHECK.hall("colours 2;net 36;");
        for (int kind = 0; kind < 3; kind++) {
            CHECK.due("spent", x.solve(kind), -2);
        }
        CHECK.none("nothing is kept", () -> x.times(0));
        CHECK.due("apply", x.apply(), -1);
        CHECK.due("15 of two colours", CHECK.hall("colours 2;net 15;").solve(0), -2);
        CHECK.due("14 of two colours", CHECK.hall("colours 2;net 14;").solve(0), 0);
        CHECK.due("10 of three colours", CHECK.hall("colours 3;net 10;").solve(0), -2);
        CHECK.due("9 of three colours", CHECK.hall("colours 3;net 9;").solve(0), 0);
        CHECK.due("7 of five colours", CHECK.hall("colours 5;net 7;").solve(0), -2);
        CHECK.due("6 of five colours", CHECK.hall("colours 5;net 6;").solve(0), 0);
    }

    private static void keptStays() {
        LampHall x = CHECK.hall(allAtOne(3, 11) + "jam 10;");
        x.set(0, 1, 2);
        solved(x, 0, 2, "00000000020");
        x.set(1, 1, 1);
        for (int kind = 0; kind < 3; kind++) {
            CHECK.due("none", x.solve(kind), -1);
            CHECK.due("the row stays", Check.times(x), "00000000020");
        }
        x.set(1, 1, 0);
        x.jam(10, false);
        for (int kind = 0; kind < 3; kind++) {
            CHECK.due("spent", x.solve(kind), -2);
            CHECK.due("the row stays", Check.times(x), "00000000020");
        }
        CHECK.due("apply of it", x.apply(), 2);
        CHECK.due("state", x.colour(0, 0), 2);
        LampHall y = CHECK.hall("colours 3;net 1;self;");
        y.set(0, 1, 1);
        solved(y, 2, 1, "1");
        y.set(0, 1, 2);
        CHECK.due("none of 0 and 1 alone", y.solve(2), -1);
        CHECK.due("the row stays", Check.times(y), "1");
    }

    private static void anotherKind() {
        LampHall x = CHECK.hall("colours 2;net 3;self;");
        x.set(0, 1, 1);
        x.solve(0);
        for (int kind : new int[] {-1, 3, 4, Integer.MIN_VALUE, Integer.MAX_VALUE}) {
            CHECK.none("solve(" + kind + ")", () -> x.solve(kind));
            CHECK.none("solve(" + kind + ") of what is spent", () -> CHECK.hall("colours 2;net 36;").solve(kind));
            CHECK.none("solve(" + kind + ") of no lamps", () -> new LampHall().solve(kind));
        }
        CHECK.due("the row stays", Check.times(x), "100");
        LampHall y = CHECK.hall("colours 2;net 3;");
        y.fill(1, 1);
        CHECK.none("solve(3) where no row leads", () -> y.solve(3));
    }

    private static void times() {
        LampHall x = CHECK.hall("colours 5;net 36;self;");
        x.set(0, 1, 4);
        x.set(35, 1, 3);
        x.solve(0);
        CHECK.due("the first", x.times(0), 4);
        CHECK.due("the last", x.times(35), 3);
        CHECK.due("another", x.times(34), 0);
        x.jam(35, true);
        x.fill(0, 1);
        x.fill(1, 2);
        CHECK.due("it is kept", x.times(35), 3);
    }

    private static void timesOfNone() {
        CHECK.none("times of a new object", () -> new LampHall().times(0));
        LampHall x = CHECK.hall("colours 2;net 3;self;");
        CHECK.none("none is kept", () -> x.times(0));
        x.nearest();
        CHECK.none("none is kept behind nearest", () -> x.times(0));
        x.solve(0);
        CHECK.due("one is kept", x.times(2), 0);
        for (int button : NO_LAMP_OF_THREE) {
            CHECK.none("times(" + button + ")", () -> x.times(button));
        }
        Check.tell(x, "colours 2;net 3;self;");
        CHECK.none("it is gone", () -> x.times(0));
        LampHall none = new LampHall();
        none.solve(0);
        CHECK.none("no such button", () -> none.times(0));
    }

    private static void apply() {
        LampHall x = CHECK.hall("colours 5;net 3;self;");
        CHECK.row(x, 1, "304");
        x.solve(1);
        CHECK.due("presses, not buttons", x.apply(), 7);
        CHECK.due("state", Check.colours(x, 0), "304");
        CHECK.due("again, it is kept still", x.apply(), 7);
        CHECK.due("state", Check.colours(x, 0), "103");
        CHECK.due("presses", x.count(5), 14);
        LampHall y = CHECK.hall("colours 2;net 3;self;");
        y.solve(0);
        CHECK.due("a row of 0", y.apply(), 0);
        CHECK.due("presses", y.count(5), 0);
        LampHall z = CHECK.hall("colours 5;net 36;self;");
        z.fill(1, 4);
        z.solve(0);
        CHECK.due("the most", z.apply(), 144);
        CHECK.due("state", Check.colours(z, 0), "4".repeat(36));
    }

    private static void applyOfJammed() {
        LampHall x = CHECK.hall("colours 3;net 3;self;");
        CHECK.row(x, 1, "212");
        x.solve(0);
        x.jam(2, true);
        CHECK.due("apply", x.apply(), 3);
        CHECK.due("state", Check.colours(x, 0), "210");
        int[] back = {1, 0, 0, -1};
        for (int button : back) {
            CHECK.due("back", x.back(), button);
        }
        CHECK.due("state", Check.colours(x, 0), "000");
        x.jam(0, true);
        x.jam(1, true);
        CHECK.due("all are jammed", x.apply(), 0);
        CHECK.due("the row stays", Check.times(x), "212");
        LampHall y = CHECK.hall("colours 5;net 36;self;");
        y.fill(1, 4);
        y.solve(0);
        y.apply();
        CHECK.due("the latest 100", y.count(5), 100);
        for (int i = 0; i < 100; i++) {
            CHECK.due("back", y.back(), 35 - i / 4);
        }
        CHECK.due("no more", y.back(), -1);
        CHECK.due("state", Check.colours(y, 0), "4".repeat(11) + "0".repeat(25));
    }

    private static void applyOfNone() {
        CHECK.due("apply of a new object", new LampHall().apply(), -1);
        LampHall x = CHECK.hall("colours 2;net 3;self;");
        x.press(0);
        x.nearest();
        CHECK.due("apply", x.apply(), -1);
        CHECK.due("state", Check.colours(x, 0), "100");
        CHECK.due("presses", x.count(5), 1);
        x.solve(0);
        Check.tell(x, "colours 2;net 3;self;");
        CHECK.due("it is gone", x.apply(), -1);
    }

    private static void needed() {
        LampHall x = CHECK.hall("colours 5;net 3;button 0 at 0;button 1 at 1;button 2 at 1 by 3;");
        x.set(0, 1, 4);
        CHECK.due("needed", x.needed(0), 1);
        CHECK.due("free", x.needed(1), 2);
        CHECK.due("of no lamps", new LampHall().needed(0) + new LampHall().needed(1), 0);
        LampHall y = CHECK.hall("colours 5;net 36;button 0 at 0;");
        y.set(0, 1, 1);
        CHECK.due("needed, though it is spent", y.needed(0), 1);
        CHECK.due("free, though it is spent", y.needed(1), 35);
        CHECK.due("it is spent", y.solve(0), -2);
    }

    private static void noRowLeads() {
        LampHall x = CHECK.hall("colours 2;net 2;button 0 at 0;");
        x.set(1, 1, 1);
        CHECK.due("needed", x.needed(0), -1);
        CHECK.due("free", x.needed(1), -1);
        x.set(1, 0, 1);
        CHECK.due("needed", x.needed(0), 0);
        CHECK.due("free", x.needed(1), 1);
        x.set(0, 0, 1);
        x.jam(0, true);
        CHECK.due("needed of a jammed one", x.needed(0), -1);
        CHECK.due("free", x.needed(1), -1);
    }

    private static void neededOfAnother() {
        LampHall x = CHECK.hall("colours 2;net 2;");
        for (int i = 0; i < 2; i++) {
            for (int what : NO_WHATS) {
                CHECK.none("needed(" + what + ")", () -> x.needed(what));
            }
            x.fill(1, 1);
        }
    }

    private static void needK() {
        LampHall x = CHECK.hall("colours 3;net 8;self;");
        // Of eight lamps each 0, 1 or 2: as many as the k-th number of (1 + t + t^2)^8.
        int[] want = {1, 8, 36, 112, 266, 504, 784, 1016, 1107, 1016, 784, 504, 266, 112, 36, 8, 1, 0};
        for (int k = 0; k < want.length; k++) {
            CHECK.due("hard(" + k + ")", x.hard(k), want[k]);
        }
        for (int k : new int[] {63, 64, 65, 1000, -2, -3, Integer.MAX_VALUE, Integer.MIN_VALUE}) {
            CHECK.due("hard(" + k + ")", x.hard(k), 0);
        }
    }

    private static void mostPresses() {
        CHECK.due("of no lamps", new LampHall().hard(-1), 0);
        CHECK.due("of what does nothing", CHECK.hall("colours 5;net 36;").hard(-1), 0);
        CHECK.due("of two colours", CHECK.hall(ownOnes(2, 13)).hard(-1), 13);
        CHECK.due("of three colours", CHECK.hall(ownOnes(3, 8)).hard(-1), 16);
        LampHall x = CHECK.hall(ownOnes(5, 5));
        CHECK.due("of five colours", x.hard(-1), 20);
        CHECK.due("how many need them", x.hard(20), 1);
        CHECK.due("none needs more", x.hard(21), 0);
        x.jam(4, true);
        CHECK.due("without one", x.hard(-1), 16);
    }

    private static void hardTooMany() {
        for (int[] power : POWERS) {
            LampHall x = CHECK.hall(ownOnes(power[0], power[2] + 1));
            for (int k : new int[] {-1, 0, 1, 100, -2, Integer.MIN_VALUE, Integer.MAX_VALUE}) {
                CHECK.due("hard(" + k + ")", x.hard(k), -2);
            }
            CHECK.due("one less", CHECK.hall(ownOnes(power[0], power[2])).hard(1), power[2]);
        }
        CHECK.due("of 36", CHECK.hall("colours 5;net 36;self;").hard(-1), -2);
    }

    private static void nearestIsKept() {
        LampHall x = CHECK.hall("colours 2;net 3;button 0 at 0;button 0 at 1;");
        x.set(2, 1, 1);
        x.press(0);
        CHECK.due("nearest", x.nearest(), 1);
        CHECK.due("it", Check.nearest(x), "000");
        CHECK.due("THE STATE stays", Check.colours(x, 0), "110");
        CHECK.due("presses stay", x.count(5), 1);
        x.fill(1, 1);
        x.fill(0, 1);
        CHECK.due("it is kept", Check.nearest(x), "000");
        CHECK.due("nearest anew", x.nearest(), 0);
        CHECK.due("it", Check.nearest(x), "111");
        CHECK.due("of no lamps", new LampHall().nearest(), 0);
    }

    private static void nearestTooMany() {
        LampHall x = CHECK.hall("colours 2;net 14;self;jam 0;");
        x.fill(1, 1);
        CHECK.due("13 own ones", x.nearest(), 1);
        x.jam(0, false);
        x.fill(1, 0);
        CHECK.due("14 own ones", x.nearest(), -2);
        CHECK.due("what is kept stays", Check.nearest(x), "01111111111111");
        LampHall y = CHECK.hall("colours 5;net 36;self;");
        CHECK.due("36 own ones", y.nearest(), -2);
        CHECK.none("nothing is kept", () -> y.near(0));
    }

    private static void near() {
        LampHall x = CHECK.hall("colours 5;net 36;");
        x.set(0, 0, 4);
        x.set(35, 0, 3);
        x.nearest();
        CHECK.due("the first", x.near(0), 4);
        CHECK.due("the last", x.near(35), 3);
        CHECK.due("another", x.near(34), 0);
        x.fill(0, 1);
        x.jam(0, true);
        CHECK.due("it is kept", x.near(0), 4);
    }

    private static void nearOfNone() {
        CHECK.none("near of a new object", () -> new LampHall().near(0));
        LampHall x = CHECK.hall("colours 2;net 3;self;");
        CHECK.none("none is kept", () -> x.near(0));
        x.solve(0);
        CHECK.none("none is kept behind solve", () -> x.near(0));
        x.nearest();
        CHECK.due("one is kept", x.near(2), 0);
        for (int lamp : NO_LAMP_OF_THREE) {
            CHECK.none("near(" + lamp + ")", () -> x.near(lamp));
        }
        Check.tell(x, "colours 2;net 3;self;");
        CHECK.none("it is gone", () -> x.near(0));
        LampHall none = new LampHall();
        none.nearest();
        CHECK.none("no such lamp", () -> none.near(0));
    }
}

/** Each sentence of promises 26 to 32, and of the terms they stand on, that names a boundary case. */
public final class EdgePlayTest {
    private static final Check CHECK = new Check("EdgePlayTest");
    private static final int[] NO_WHATS = {-1, 2, 3, Integer.MIN_VALUE, Integer.MAX_VALUE};
    /** Of each q: the most lamps of at most 20,000 states, and how many states those are. */
    private static final int[][] POWERS = {{2, 14, 16384}, {3, 9, 19683}, {5, 6, 15625}};

    public static void main(String[] args) {
        chased();
        lit();
        games();
        pulses();
        CHECK.end();
    }

    private static void chased() {
        CHECK.sentence(0, "CHASED (BOARDS): rows from the second on, columns from the first on", EdgePlayTest::fromSecondRow);
        CHECK.sentence(0, "the BUTTON there is pressed the fewest times (0 to q - 1) by which the LAMP above it (a row less, the same"
            + " column) is as in THE WISH", EdgePlayTest::fewestTimes);
        CHECK.sentence(0, "not at all, if it is JAMMED or that can't be.", EdgePlayTest::notAtAll);
        CHECK.sentence(0, "TOP: NUMBERS of presses of the first row's BUTTONS (0 of JAMMED ones)", EdgePlayTest::topOfJammed);
        CHECK.sentence(0, "behind which, all being CHASED, THE STATE is THE WISH", EdgePlayTest::behindWhich);
        CHECK.sentence(0, "the first as a row, as a number: each times q to the power of its column.", EdgePlayTest::asANumber);
        CHECK.sentence(26, "THE STATE is CHASED: how many presses were made.", EdgePlayTest::chase);
        CHECK.sentence(26, "NONE: of a NET.", EdgePlayTest::chaseOfNet);
        CHECK.sentence(27, "TOP; NONE: there is none, or of a NET.", EdgePlayTest::topOfNone);
        CHECK.sentence(27, "(THE STATE stays.)", EdgePlayTest::topLeavesState);
    }

    private static void lit() {
        CHECK.sentence(0, "LIT: a BUTTON may be pressed while its LAMP isn't 0 (nor it JAMMED).", EdgePlayTest::whileNot0);
        CHECK.sentence(0, "The fewest such presses from THE STATE to THE WISH", EdgePlayTest::fewestLit);
        CHECK.sentence(0, "of like ones the first BUTTON least", EdgePlayTest::leastFirst);
        CHECK.sentence(0, "(of at most 20,000 STATES: q to the power of n).", EdgePlayTest::atMost20000);
        CHECK.sentence(28, "LIT: how many presses (what 0), the first BUTTON (1; NONE: none needed), how many STATES can be come to so"
            + " (2).", EdgePlayTest::litOfNothing);
        CHECK.sentence(28, "NONE of 0, 1: there is no way", EdgePlayTest::noWay);
        CHECK.sentence(28, "-2: more STATES than 20,000.", EdgePlayTest::moreStates);
        CHECK.sentence(28, "NoSuchElementException: another what.", EdgePlayTest::litOfAnother);
    }

    private static void games() {
        CHECK.sentence(0, "GAME (of at most 12 LAMPS)", EdgePlayTest::atMost12);
        CHECK.sentence(0, "two press in turn, LIT, each BUTTON at most once in all", EdgePlayTest::onceInAll);
        CHECK.sentence(0, "who can't has lost.", EdgePlayTest::whoCant);
        CHECK.sentence(29, "GAME from THE STATE: the least BUTTON by which the first wins", EdgePlayTest::leastWinning);
        CHECK.sentence(29, "NONE: it has lost", EdgePlayTest::hasLost);
        CHECK.sentence(29, "-2: more than 12 LAMPS.", EdgePlayTest::moreThan12);
    }

    private static void pulses() {
        CHECK.sentence(0, "A PULSE: each BUTTON that isn't JAMMED is pressed as often as its LAMP's COLOUR was, all at once.",
            EdgePlayTest::allAtOnce);
        CHECK.sentence(0, "THE STATE COMES ROUND by PULSES: AFTER so many, every so many (sought within 300).",
            EdgePlayTest::within300);
        CHECK.sentence(0, "TWINS: BUTTONS of like AMOUNTS at all LAMPS (JAMMED or not).", EdgePlayTest::likeAmounts);
        CHECK.sentence(30, "PULSES are made, so many (0 to 100): true.", EdgePlayTest::pulses0To100);
        CHECK.sentence(30, "False: not as told.", EdgePlayTest::notAsTold);
        CHECK.sentence(30, "(No press can be taken back then.)", EdgePlayTest::noPressThen);
        CHECK.sentence(31, "THE STATE COMES ROUND: AFTER (what 0), every so many (1)", EdgePlayTest::round);
        CHECK.sentence(31, "NONE: not found.", EdgePlayTest::notFound);
        CHECK.sentence(31, "NoSuchElementException: another what.", EdgePlayTest::roundOfAnother);
        CHECK.sentence(32, "The least TWIN of a BUTTON (it may be itself).", EdgePlayTest::twin);
    }

    private static void fromSecondRow() {
        LampHall x = CHECK.hall("colours 2;board 3 1;self;side;");
        x.fill(0, 1);
        CHECK.due("a first row alone", x.chase(), 0);
        CHECK.due("state", Check.colours(x, 0), "111");
        LampHall y = CHECK.hall("colours 2;board 1 1 both;self;");
        y.fill(0, 1);
        CHECK.due("one lamp", y.chase(), 0);
        LampHall z = CHECK.hall("colours 2;board 2 3;self;side;");
        z.fill(0, 1);
        // 2 and 3 put out 0 and 1 and each other's lamps twice, so that these are lit still for 4 and 5.
        CHECK.due("chase", z.chase(), 4);
        int[] back = {5, 4, 3, 2, -1};
        for (int button : back) {
            CHECK.due("columns from the first on, rows downwards", z.back(), button);
        }
        // Rows are a ring too: the first row's buttons stay unpressed though they step the last row's lamps.
        LampHall ring = CHECK.hall("colours 2;board 1 2 both;button 0 at 1;button 1 at 0;");
        ring.set(1, 0, 1);
        CHECK.due("the last row's lamp stays", ring.chase(), 0);
        CHECK.due("state", Check.colours(ring, 0), "01");
        // The press of the first column puts out the lamp above the second.
        LampHall order = CHECK.hall("colours 2;board 2 2;button 2 at 0;button 2 at 1;button 3 at 1;button 3 at 0;");
        order.fill(0, 1);
        CHECK.due("the first column first", order.chase(), 1);
        CHECK.due("back", order.back(), 2);
        order.fill(0, 0);
        order.set(1, 0, 1);
        CHECK.due("then the second", order.chase(), 1);
        CHECK.due("state", Check.colours(order, 0), "1000");
    }

    private static void fewestTimes() {
        for (int q : new int[] {2, 3, 5}) {
            for (int by = 1; by < q; by++) {
                for (int often = 0; often < q; often++) {
                    LampHall x = CHECK.hall("colours " + q + ";board 1 2;button 1 at 0 by " + by + ";");
                    x.set(0, 1, often * by % q);
                    CHECK.due("chase, by " + by + " of " + q, x.chase(), often);
                    CHECK.due("the lamp above", x.colour(0, 0), often * by % q);
                    CHECK.due("again", x.chase(), 0);
                }
            }
        }
        LampHall y = CHECK.hall("colours 3;board 1 2;button 1 at 0;");
        y.set(0, 0, 1);
        CHECK.due("once too much is twice more", y.chase(), 2);
        LampHall z = CHECK.hall("colours 5;board 6 6;button 35 at 29 by 2;button 6 at 0;");
        z.set(29, 1, 4);
        z.set(0, 1, 4);
        CHECK.due("the last lamp's and the first's", z.chase(), 2 + 4);
        CHECK.due("a row less, the same column", z.colour(29, 0) + z.colour(0, 0), 8);
    }

    private static void notAtAll() {
        LampHall x = CHECK.hall("colours 2;board 2 2;self;side;jam 2;");
        CHECK.row(x, 0, "1100");
        CHECK.due("one is jammed", x.chase(), 1);
        CHECK.due("state", Check.colours(x, 0), "1011");
        x.jam(3, true);
        x.fill(0, 1);
        CHECK.due("both are jammed", x.chase(), 0);
        CHECK.due("state", Check.colours(x, 0), "1111");
        LampHall y = CHECK.hall("colours 3;board 2 2;self;button 3 at 1;");
        CHECK.row(y, 0, "1200");
        CHECK.due("one doesn't step the lamp above", y.chase(), 1);
        CHECK.due("state", Check.colours(y, 0), "1001");
        CHECK.due("the rest can't be", y.chase(), 0);
        CHECK.due("presses", y.count(5), 1);
    }

    private static void topOfJammed() {
        LampHall x = CHECK.hall("colours 3;board 3 1;row;");
        x.fill(0, 1);
        CHECK.due("by the last", x.top(), 2 * 9);
        x.jam(2, true);
        CHECK.due("by the second", x.top(), 2 * 3);
        x.jam(1, true);
        CHECK.due("by the first", x.top(), 2);
        x.jam(0, true);
        CHECK.due("all are jammed", x.top(), -1);
        x.fill(1, 1);
        CHECK.due("nothing is to be done", x.top(), 0);
        LampHall y = CHECK.hall("colours 2;board 3 3;self;side;");
        y.fill(0, 1);
        CHECK.due("the corners", y.top(), 1 + 4);
        y.jam(1, true);
        CHECK.due("the middle isn't used", y.top(), 5);
        y.jam(0, true);
        CHECK.due("a corner is", y.top(), -1);
    }

    private static void behindWhich() {
        LampHall x = CHECK.hall("colours 3;board 2 3;self;side;");
        CHECK.row(x, 0, "120210");
        CHECK.row(x, 1, "001122");
        int top = x.top();
        x.keep(0);
        for (int number = 0; number < 9; number++) {
            x.take(0, 0);
            for (int i = 0; i < number % 3; i++) {
                x.press(0);
            }
            for (int i = 0; i < number / 3; i++) {
                x.press(1);
            }
            x.chase();
            CHECK.due("top " + number, Check.colours(x, 0).equals(Check.colours(x, 1)), number == top);
        }
        // A chase alone: THE STATE isn't THE WISH though a row of presses leads.
        LampHall y = CHECK.hall("colours 2;board 1 2;self;");
        y.set(1, 0, 1);
        CHECK.due("top", y.top(), -1);
        CHECK.due("a row leads", y.solve(0), 1);
        y.fill(0, 0);
        y.set(0, 0, 1);
        CHECK.due("top", y.top(), 1);
        y.jam(1, true);
        CHECK.due("with a jam below", y.top(), 1);
    }

    private static void asANumber() {
        LampHall x = CHECK.hall("colours 5;board 6 1;self;");
        x.fill(1, 4);
        CHECK.due("the greatest", x.top(), 15624);
        CHECK.row(x, 1, "100000");
        CHECK.due("the first column", x.top(), 1);
        CHECK.row(x, 1, "000001");
        CHECK.due("the last column", x.top(), 3125);
        CHECK.row(x, 1, "021000");
        CHECK.due("two columns", x.top(), 2 * 5 + 25);
        CHECK.row(x, 1, "000000");
        CHECK.due("none", x.top(), 0);
        LampHall y = CHECK.hall("colours 2;board 5 5;self;side;");
        y.fill(0, 1);
        // 00011, 01101, 10110 and 11000 do it; the first as a row is 00011, though 11000 is the least number.
        CHECK.due("the first as a row", y.top(), 8 + 16);
        LampHall z = CHECK.hall("colours 3;board 2 1;button 0 at 0;button 1 at 0 by 2;");
        z.set(0, 1, 1);
        CHECK.due("02 ahead of 10", z.top(), 2 * 3);
    }

    private static void chase() {
        LampHall x = CHECK.hall("colours 2;board 5 5;self;side;");
        x.set(0, 0, 1);
        CHECK.due("chase", x.chase(), 8);
        CHECK.due("state", Check.colours(x, 0), "0".repeat(24) + "1");
        CHECK.due("presses", x.count(5), 8);
        CHECK.due("nothing more", x.chase(), 0);
        LampHall y = CHECK.hall("colours 5;board 6 6;button 6 at 0;button 35 at 29;button 30 at 24 by 3;");
        CHECK.due("nothing is unlike", y.chase(), 0);
        y.fill(1, 2);
        CHECK.due("by three buttons", y.chase(), 2 + 2 + 4);
        int[] back = {35, 35, 30, 30, 30, 30, 6, 6, -1};
        for (int button : back) {
            CHECK.due("back", y.back(), button);
        }
        CHECK.due("state", Check.colours(y, 0), "0".repeat(36));
    }

    private static void chaseOfNet() {
        LampHall x = CHECK.hall("colours 2;net 4;self;side;wire 0 2;wire 1 3;");
        x.fill(0, 1);
        CHECK.due("chase", x.chase(), -1);
        CHECK.due("state", Check.colours(x, 0), "1111");
        CHECK.due("presses", x.count(5), 0);
        CHECK.due("of no lamps", new LampHall().chase(), -1);
        CHECK.due("of a board", CHECK.hall("colours 2;board 2 2;").chase(), 0);
    }

    private static void topOfNone() {
        LampHall x = CHECK.hall("colours 2;net 4;self;");
        CHECK.due("of a net", x.top(), -1);
        CHECK.due("of no lamps", new LampHall().top(), -1);
        LampHall y = CHECK.hall("colours 2;board 5 5;self;side;");
        CHECK.due("nothing to do", y.top(), 0);
        y.set(0, 0, 1);
        CHECK.due("there is none", y.top(), -1);
        LampHall z = CHECK.hall("colours 2;board 2 1;button 0 at 0;");
        z.set(1, 1, 1);
        CHECK.due("there is none", z.top(), -1);
    }

    private static void topLeavesState() {
        LampHall x = CHECK.hall("colours 3;board 3 3;self;side;");
        x.press(4);
        x.fill(1, 2);
        x.keep(0);
        CHECK.due("top", x.top() >= -1, true);
        CHECK.due("state", Check.colours(x, 0), "010111010");
        CHECK.due("wish", Check.colours(x, 1), "222222222");
        CHECK.due("presses", x.count(5), 1);
        CHECK.due("no row is kept", x.apply(), -1);
    }

    private static void litIs(LampHall x, int presses, int first, int states) {
        CHECK.due("lit(0)", x.lit(0), presses);
        CHECK.due("lit(1)", x.lit(1), first);
        CHECK.due("lit(2)", x.lit(2), states);
    }

    private static void whileNot0() {
        for (int q : new int[] {2, 3, 5}) {
            LampHall x = CHECK.hall("colours " + q + ";net 1;self;");
            x.fill(1, 1);
            litIs(x, -1, -1, 1);
            x.fill(1, 0);
            for (int colour = 1; colour < q; colour++) {
                x.fill(0, colour);
                litIs(x, q - colour, 0, q - colour + 1);
            }
            x.jam(0, true);
            litIs(x, -1, -1, 1);
        }
        // Lamp 1 comes on by button 0; its button may be pressed from then on.
        LampHall y = CHECK.hall("colours 2;net 3;self;button 0 at 1;button 1 at 2;");
        CHECK.row(y, 0, "100");
        CHECK.row(y, 1, "001");
        litIs(y, 2, 0, 4);
        y.jam(1, true);
        litIs(y, -1, -1, 2);
        CHECK.due("a press by hand needs no lit lamp", y.press(2), true);
    }

    private static void fewestLit() {
        // By button 0 once, or by buttons 1 and 2.
        LampHall x = CHECK.hall("colours 2;net 3;self;button 0 at 1;button 0 at 2;");
        x.fill(0, 1);
        litIs(x, 1, 0, 8);
        x.jam(0, true);
        x.set(0, 1, 1);
        litIs(x, 2, 1, 4);
        CHECK.due("THE STATE stays", Check.colours(x, 0), "111");
        LampHall y = CHECK.hall("colours 5;net 2;self;");
        y.fill(0, 1);
        litIs(y, 8, 0, 25);
        y.set(0, 1, 2);
        litIs(y, 5, 0, 25);
        longWays();
    }

    /** Far more presses than any difference needs with buttons that always work; numbers by a plain walk outside the class. */
    private static void longWays() {
        LampHall x = CHECK.hall("colours 5;net 6;button0at0by4;button0at5by3;button1at0;button1at1by3;button2at2by2;button2at4by3;"
            + "button3at2by3;button3at3;button4at1by4;button4at4by2;button5at3by4;button5at5by2;");
        CHECK.row(x, 0, "023400");
        CHECK.row(x, 1, "412122");
        litIs(x, 173, 1, 15624);
        LampHall y = CHECK.hall("colours 2;net 12;button0at0;button0at5;button1at1;button1at8;button2at7;button2at10;button3at6;"
            + "button4at3;button4at4;button5at5;button5at11;button6at3;button6at9;button7at0;button7at2;button7at7;button8at1;"
            + "button9at2;button9at6;button9at8;button9at9;button10at2;button11at4;button11at8;button11at11;");
        CHECK.row(y, 0, "000000001010");
        CHECK.row(y, 1, "110011010111");
        litIs(y, 120, 8, 4092);
        LampHall z = CHECK.hall("colours 3;net 8;button0at0;button0at2by2;button1at1;button1at5by2;button2at2;button2at6by2;"
            + "button3at3by2;button3at7by2;button4at1by2;button4at4;button5at3;button5at5by2;button6at0;button6at6;button7at4by2;"
            + "button7at7;");
        CHECK.row(z, 0, "00200100");
        CHECK.row(z, 1, "21121111");
        litIs(z, 77, 2, 6292);
    }

    private static void leastFirst() {
        LampHall x = CHECK.hall("colours 2;net 4;self;");
        CHECK.row(x, 0, "0111");
        litIs(x, 3, 1, 8);
        CHECK.row(x, 1, "0100");
        litIs(x, 2, 2, 8);
        // Button 2 does what 1 and 3 do together, and all begin with a lit lamp: the fewest go ahead of the least.
        LampHall y = CHECK.hall("colours 2;net 4;button 1 at 0;button 3 at 1;button 3 at 3;button 2 at 0;button 2 at 1;");
        CHECK.row(y, 0, "0111");
        CHECK.row(y, 1, "1011");
        litIs(y, 1, 2, 8);
        // Buttons 1 and 3 do alike.
        LampHall z = CHECK.hall("colours 2;net 4;button 1 at 0;button 3 at 0;");
        CHECK.row(z, 0, "0101");
        CHECK.row(z, 1, "1101");
        litIs(z, 1, 1, 2);
        z.jam(1, true);
        litIs(z, 1, 3, 2);
        // Each button once; from 111 by 0 to 011, by 1 to 101, by 2 to 000.
        LampHall w = CHECK.hall("colours 2;net 3;self;button 1 at 0;button 2 at 0;");
        CHECK.row(w, 0, "111");
        litIs(w, 3, 0, 8);
    }

    private static void atMost20000() {
        for (int[] power : POWERS) {
            LampHall x = CHECK.hall("colours " + power[0] + ";net " + power[1] + ";self;");
            x.fill(0, 1);
            litIs(x, power[1] * (power[0] - 1), 0, power[2]);
            x.fill(1, 1);
            litIs(x, 0, -1, power[2]);
            Check.tell(x, "colours " + power[0] + ";net " + (power[1] + 1) + ";self;");
            litIs(x, -2, -2, -2);
        }
    }

    private static void litOfNothing() {
        litIs(new LampHall(), 0, -1, 1);
        LampHall x = CHECK.hall("colours 3;net 2;self;");
        litIs(x, 0, -1, 1);
        x.fill(0, 1);
        x.fill(1, 1);
        litIs(x, 0, -1, 9);
        x.set(1, 1, 2);
        litIs(x, 1, 1, 9);
        x.set(0, 1, 2);
        litIs(x, 2, 0, 9);
        x.jam(0, true);
        x.jam(1, true);
        litIs(x, -1, -1, 1);
        CHECK.due("state", Check.colours(x, 0), "11");
    }

    private static void noWay() {
        LampHall x = CHECK.hall("colours 2;net 2;self;");
        x.set(0, 1, 1);
        litIs(x, -1, -1, 1);
        x.set(1, 0, 1);
        litIs(x, -1, -1, 2);
        CHECK.due("though a row leads", x.solve(0), 2);
        x.set(0, 0, 1);
        litIs(x, 1, 1, 4);
        LampHall y = CHECK.hall("colours 2;net 14;");
        y.fill(0, 1);
        litIs(y, -1, -1, 1);
    }

    private static void moreStates() {
        String[] texts = {"colours 2;net 15;", "colours 3;net 10;", "colours 5;net 7;", "colours 2;board 6 6;", "colours 5;net 36;"};
        for (String text : texts) {
            LampHall x = CHECK.hall(text);
            litIs(x, -2, -2, -2);
            x.fill(0, 1);
            litIs(x, -2, -2, -2);
        }
        litIs(CHECK.hall("colours 2;net 14;"), 0, -1, 1);
        litIs(CHECK.hall("colours 3;board 3 3;"), 0, -1, 1);
        litIs(CHECK.hall("colours 5;board 6 1;"), 0, -1, 1);
    }

    private static void litOfAnother() {
        for (String text : new String[] {"colours 2;net 2;self;", "colours 2;net 36;"}) {
            LampHall x = CHECK.hall(text);
            for (int what : new int[] {-1, 3, 4, Integer.MIN_VALUE, Integer.MAX_VALUE}) {
                CHECK.none("lit(" + what + ") of " + text, () -> x.lit(what));
                CHECK.none("lit(" + what + ") of no lamps", () -> new LampHall().lit(what));
            }
        }
    }

    private static void atMost12() {
        for (String text : new String[] {"colours 2;net 12;self;", "colours 5;board 6 2;self;", "colours 3;board 3 4;self;"}) {
            LampHall x = CHECK.hall(text);
            CHECK.due("nothing is lit", x.game(), -1);
            x.fill(0, 1);
            CHECK.due("12 presses", x.game(), -1);
            x.set(0, 0, 0);
            CHECK.due("11 presses", x.game(), 1);
            x.fill(0, 0);
            x.set(11, 0, 1);
            CHECK.due("the last alone", x.game(), 11);
        }
    }

    private static void onceInAll() {
        for (int q : new int[] {3, 5}) {
            LampHall x = CHECK.hall("colours " + q + ";net 1;self;");
            x.fill(0, 1);
            CHECK.due("it is lit still, but pressed", x.game(), 0);
        }
        // 0 puts out lamp 1: the other can't press. By 1 it would be left lamp 0, by which lamp 1 comes on: it was pressed.
        LampHall y = CHECK.hall("colours 2;net 2;self;button 0 at 1;");
        y.fill(0, 1);
        CHECK.due("by the first", y.game(), 0);
        // The first wins by 1 alone: 0 leaves 1 to the other.
        LampHall z = CHECK.hall("colours 2;net 2;self;button 1 at 0;");
        z.fill(0, 1);
        CHECK.due("by the second", z.game(), 1);
        z.set(0, 0, 0);
        // 1 puts on lamp 0, which is left to the other.
        CHECK.due("what comes on may be pressed", z.game(), -1);
        z.jam(0, true);
        CHECK.due("not if it is jammed", z.game(), 1);
    }

    private static void whoCant() {
        LampHall x = CHECK.hall("colours 2;net 4;self;");
        String[] states = {"0000", "0001", "0011", "0111", "1111"};
        int[] wins = {-1, 3, -1, 1, -1};
        for (int i = 0; i < states.length; i++) {
            CHECK.row(x, 0, states[i]);
            CHECK.due("game of " + states[i], x.game(), wins[i]);
        }
        for (int button = 0; button < 4; button++) {
            x.jam(button, true);
        }
        CHECK.due("all are jammed", x.game(), -1);
        CHECK.due("of no lamps", new LampHall().game(), -1);
    }

    private static void leastWinning() {
        LampHall x = CHECK.hall("colours 2;net 3;self;");
        x.fill(0, 1);
        CHECK.due("all win", x.game(), 0);
        x.jam(0, true);
        x.jam(1, true);
        CHECK.due("the only one that works", x.game(), 2);
        x.press(2);
        CHECK.due("from THE STATE as it is", x.game(), -1);
        LampHall y = CHECK.hall("colours 2;net 4;self;button 2 at 3;button 2 at 1;button 3 at 1;button 3 at 2;");
        // By 2 all go out. By 1 the other is left 0011, goes by 2 to 0100, and 1 was pressed.
        CHECK.row(y, 0, "0111");
        CHECK.due("2 ends it, 1 would not", y.game(), 2);
        CHECK.due("THE STATE stays", Check.colours(y, 0), "0111");
        CHECK.due("presses stay", y.count(5), 0);
        y.fill(1, 1);
        CHECK.due("whatever THE WISH is", y.game(), 2);
    }

    private static void hasLost() {
        CHECK.due("nothing is lit", CHECK.hall("colours 2;net 12;self;").game(), -1);
        LampHall x = CHECK.hall("colours 2;net 2;self;");
        x.fill(0, 1);
        CHECK.due("one each", x.game(), -1);
        x.set(1, 0, 0);
        CHECK.due("one alone", x.game(), 0);
        x.jam(0, true);
        CHECK.due("it is jammed", x.game(), -1);
    }

    private static void moreThan12() {
        for (String text : new String[] {"colours 2;net 13;self;", "colours 2;net 36;", "colours 5;board 5 3;self;"}) {
            LampHall x = CHECK.hall(text);
            CHECK.due("game of " + text, x.game(), -2);
            x.fill(0, 1);
            CHECK.due("game of " + text, x.game(), -2);
        }
        LampHall y = CHECK.hall("colours 2;net 13;self;jam 12;");
        CHECK.due("13 of which one is jammed", y.game(), -2);
        CHECK.due("12", CHECK.hall("colours 2;net 12;").game(), -1);
    }

    private static void allAtOnce() {
        LampHall x = CHECK.hall("colours 5;net 3;button 0 at 1;button 1 at 2 by 2;");
        CHECK.row(x, 0, "410");
        x.pulse(1);
        // Button 1 once, as lamp 1 was 1, though button 0 makes it 0.
        CHECK.due("state", Check.colours(x, 0), "402");
        x.pulse(1);
        CHECK.due("state", Check.colours(x, 0), "442");
        CHECK.row(x, 0, "410");
        x.jam(0, true);
        x.pulse(1);
        CHECK.due("state with a jam", Check.colours(x, 0), "412");
        x.jam(1, true);
        x.pulse(1);
        CHECK.due("all that do something are jammed", Check.colours(x, 0), "412");
        LampHall y = CHECK.hall("colours 5;net 36;button 35 at 0;");
        y.set(35, 0, 4);
        y.pulse(1);
        CHECK.due("as often as the last lamp's colour", y.colour(0, 0), 4);
        y.pulse(1);
        CHECK.due("8 MOD 5", y.colour(0, 0), 3);
    }

    /** Lamps 0 to 4 come round in 31 pulses, 5 to 10 in 9, so both in 279; 11 to 32 hand one on and out. */
    private static LampHall rounds() {
        StringBuilder text = new StringBuilder("colours 2;net 33;self;");
        int[][] links = {{0, 1}, {1, 2}, {2, 3}, {3, 4}, {4, 0}, {4, 2}, {5, 6}, {6, 7}, {7, 8}, {8, 9}, {9, 10}, {10, 5}, {10, 8}};
        for (int[] link : links) {
            text.append("button").append(link[0]).append("at").append(link[1]).append(';');
        }
        for (int lamp = 11; lamp < 32; lamp++) {
            text.append("button").append(lamp).append("at").append(lamp + 1).append(';');
        }
        return CHECK.hall(text.toString());
    }

    private static void comesRound(LampHall x, int after, int every) {
        CHECK.due("round(0)", x.round(0), after);
        CHECK.due("round(1)", x.round(1), every);
    }

    private static void within300() {
        LampHall x = rounds();
        comesRound(x, 0, 1);
        x.set(0, 0, 1);
        comesRound(x, 0, 31);
        x.set(5, 0, 1);
        comesRound(x, 0, 279);
        x.set(32, 0, 1);
        comesRound(x, 1, 279);
        x.set(12, 0, 1);
        comesRound(x, 21, 279);
        x.set(11, 0, 1);
        comesRound(x, -1, -1);
        x.pulse(1);
        comesRound(x, 21, 279);
        // Five colours: 300 alone, and 1 ahead of it.
        LampHall y = CHECK.hall("colours 5;net 9;button 3 at 7;button 6 at 7;button 1 at 4;button 1 at 1;button 1 at 4;button 4 at 1;"
            + "button 3 at 0;button 2 at 5;button 0 at 1;button 3 at 2;button 1 at 0;button 4 at 2;button 5 at 6;button 8 at 8 by 4;");
        y.draw(821);
        y.set(8, 0, 0);
        comesRound(y, 0, 300);
        y.set(8, 0, 1);
        comesRound(y, -1, -1);
    }

    private static void likeAmounts() {
        LampHall x = CHECK.hall("colours 3;net 4;button 0 at 3;button 1 at 3 by 2;button 2 at 3;button 3 at 3;button 3 at 0;");
        int[] least = {0, 1, 0, 3};
        for (int i = 0; i < 2; i++) {
            for (int button = 0; button < 4; button++) {
                CHECK.due("twin(" + button + ")", x.twin(button), least[button]);
            }
            x.jam(0, true);
            x.jam(2, true);
        }
        x.jam(0, false);
        CHECK.due("of a jammed one", x.twin(2), 0);
    }

    private static void pulses0To100() {
        LampHall x = CHECK.hall("colours 5;net 2;self;button 1 at 0;");
        for (int many : new int[] {0, 1, 2, 99, 100}) {
            x.fill(0, 0);
            x.set(0, 0, 1);
            CHECK.due("pulse(" + many + ")", x.pulse(many), true);
            // Each makes it twice itself: 1, 2, 4, 3, 1.
            CHECK.due("lamp 0 behind " + many, x.colour(0, 0), new int[] {1, 2, 4, 3}[many % 4]);
        }
        CHECK.due("of no lamps", new LampHall().pulse(100), true);
        LampHall y = CHECK.hall("colours 5;net 1;button 0 at 0 by 4;");
        y.set(0, 0, 1);
        y.pulse(1);
        CHECK.due("5 is 0", y.colour(0, 0), 0);
    }

    private static void notAsTold() {
        LampHall x = CHECK.hall("colours 5;net 2;self;");
        x.press(1);
        for (int many : new int[] {-1, 101, 102, Integer.MIN_VALUE, Integer.MAX_VALUE}) {
            CHECK.due("pulse(" + many + ")", x.pulse(many), false);
            CHECK.due("state", Check.colours(x, 0), "01");
            CHECK.due("presses", x.count(5), 1);
        }
        CHECK.due("back", x.back(), 1);
        CHECK.due("of no lamps", new LampHall().pulse(101), false);
    }

    private static void noPressThen() {
        for (int many : new int[] {0, 1, 100}) {
            LampHall x = CHECK.hall("colours 2;net 2;self;");
            x.press(1);
            CHECK.due("pulse(" + many + ")", x.pulse(many), true);
            CHECK.due("presses", x.count(5), 0);
            CHECK.due("back", x.back(), -1);
            x.press(0);
            CHECK.due("a press behind it can", x.back(), 0);
        }
    }

    private static void round() {
        comesRound(new LampHall(), 0, 1);
        LampHall x = CHECK.hall("colours 2;net 3;self;button 0 at 1;button 1 at 2;");
        comesRound(x, 0, 1);
        CHECK.row(x, 0, "001");
        comesRound(x, 1, 1);
        CHECK.row(x, 0, "100");
        comesRound(x, 3, 1);
        CHECK.due("THE STATE stays", Check.colours(x, 0), "100");
        LampHall y = CHECK.hall("colours 2;net 3;self;button 0 at 1;button 1 at 0;button 2 at 0;");
        CHECK.row(y, 0, "100");
        comesRound(y, 0, 2);
        CHECK.row(y, 0, "001");
        comesRound(y, 1, 2);
        y.jam(2, true);
        comesRound(y, 0, 1);
        y.jam(2, false);
        y.press(2);
        // Lamps 2 out and 0 on.
        comesRound(y, 0, 2);
        LampHall z = CHECK.hall("colours 5;net 36;self;");
        z.set(35, 0, 3);
        comesRound(z, 0, 4);
    }

    private static void notFound() {
        LampHall x = rounds();
        x.set(0, 0, 1);
        x.set(5, 0, 1);
        x.set(11, 0, 1);
        x.press(32);
        CHECK.due("after", x.round(0), -1);
        CHECK.due("every", x.round(1), -1);
        CHECK.due("presses stay", x.count(5), 1);
        x.set(0, 0, 0);
        comesRound(x, 22, 9);
    }

    private static void roundOfAnother() {
        LampHall x = rounds();
        for (int what : NO_WHATS) {
            CHECK.none("round(" + what + ")", () -> x.round(what));
            CHECK.none("round(" + what + ") of no lamps", () -> new LampHall().round(what));
        }
    }

    private static void twin() {
        LampHall x = CHECK.hall("colours 2;net 36;");
        CHECK.due("of those that do nothing", x.twin(35), 0);
        CHECK.due("of the first", x.twin(0), 0);
        LampHall y = CHECK.hall("colours 2;net 36;self;");
        CHECK.due("itself", y.twin(35), 35);
        CHECK.due("itself", y.twin(0), 0);
        LampHall z = CHECK.hall("colours 2;board 3 2;column;button 0 at 5;");
        int[] least = {0, 1, 2, 3, 1, 2};
        for (int button = 0; button < 6; button++) {
            CHECK.due("twin(" + button + ")", z.twin(button), least[button]);
        }
        for (int button : new int[] {-1, 6, 36, Integer.MIN_VALUE, Integer.MAX_VALUE}) {
            CHECK.none("twin(" + button + ")", () -> z.twin(button));
        }
        CHECK.none("of no buttons", () -> new LampHall().twin(0));
    }
}

import java.math.BigInteger;

/** Each sentence of promises 7 to 13, 33 and 34, and of the terms they stand on, that names a boundary case. */
public final class EdgeStateTest {
    private static final Check CHECK = new Check("EdgeStateTest");
    private static final int[] NO_WHATS = {-1, 2, 3, Integer.MIN_VALUE, Integer.MAX_VALUE};
    private static final int[] NO_LAMP_OF_THREE = {-1, 3, 35, 36, Integer.MIN_VALUE, Integer.MAX_VALUE};
    private static final int[] NO_SLOTS = {-1, 4, 5, Integer.MIN_VALUE, Integer.MAX_VALUE};

    public static void main(String[] args) {
        terms();
        colours();
        presses();
        slots();
        CHECK.end();
    }

    private static void terms() {
        CHECK.sentence(0, "THE STATE: a COLOUR of each LAMP (0 at first); THE WISH likewise.", EdgeStateTest::zeroAtFirst);
        CHECK.sentence(0, "A PRESS steps THE STATE; the latest 100 can be taken back.", EdgeStateTest::latest100);
        CHECK.sentence(0, "SLOTS 0 to 3 keep a STATE (of as many LAMPS, nothing at first).", EdgeStateTest::nothingAtFirst);
    }

    private static void colours() {
        CHECK.sentence(7, "COLOUR of a LAMP in THE STATE (what 0), THE WISH (1).", EdgeStateTest::stateAndWish);
        CHECK.sentence(7, "NoSuchElementException: also another what.", EdgeStateTest::colourOfAnother);
        CHECK.sentence(8, "A COLOUR is told in THE STATE (what 0; no press can be taken back then), THE WISH (1): true.",
            EdgeStateTest::setTells);
        CHECK.sentence(8, "False: no such COLOUR.", EdgeStateTest::setOfNoColour);
        CHECK.sentence(8, "NoSuchElementException likewise.", EdgeStateTest::setOfAnother);
        CHECK.sentence(9, "All LAMPS of THE STATE, THE WISH are of a COLOUR: true.", EdgeStateTest::fillsAll);
        CHECK.sentence(9, "False likewise.", EdgeStateTest::fillOfNoColour);
        CHECK.sentence(9, "NoSuchElementException: another what.", EdgeStateTest::fillOfAnother);
        CHECK.sentence(10, "THE STATE is drawn by a seed (no press can be taken back then)", EdgeStateTest::drawsState);
        CHECK.sentence(10, "LAMPS from 0 on: it becomes itself times 1103515245 and 12345 (an int that wraps), the COLOUR is its"
            + " bits 16 to 30 MOD q.", EdgeStateTest::drawWraps);
    }

    private static void presses() {
        CHECK.sentence(11, "A BUTTON is JAMMED, or not: whether it was.", EdgeStateTest::whetherItWas);
        CHECK.sentence(12, "A BUTTON is pressed: true.", EdgeStateTest::pressed);
        CHECK.sentence(12, "False: it is JAMMED.", EdgeStateTest::pressOfJammed);
        CHECK.sentence(13, "The latest press is taken back: its BUTTON", EdgeStateTest::takenBack);
        CHECK.sentence(13, "NONE: there is none.", EdgeStateTest::nothingToTakeBack);
    }

    private static void slots() {
        CHECK.sentence(33, "A SLOT keeps THE STATE: true.", EdgeStateTest::keeps);
        CHECK.sentence(33, "False: no such SLOT.", EdgeStateTest::keepInNoSlot);
        CHECK.sentence(34, "What a SLOT keeps is THE STATE (what 0; no press can be taken back then), THE WISH (1): true.",
            EdgeStateTest::takes);
        CHECK.sentence(34, "False: it keeps nothing.", EdgeStateTest::takeOfNothing);
        CHECK.sentence(34, "NoSuchElementException: another what.", EdgeStateTest::takeOfAnother);
    }

    private static void shows(LampHall x, String state, String wish, int presses) {
        CHECK.due("state", Check.colours(x, 0), state);
        CHECK.due("wish", Check.colours(x, 1), wish);
        CHECK.due("presses", x.count(5), presses);
    }

    private static void zeroAtFirst() {
        for (int q : new int[] {2, 3, 5}) {
            LampHall x = CHECK.hall("colours " + q + ";net 36;self;");
            shows(x, "0".repeat(36), "0".repeat(36), 0);
        }
    }

    private static void latest100() {
        for (int many : new int[] {99, 100, 101, 150, 200, 201}) {
            LampHall x = CHECK.hall("colours 5;net 3;self;button 1 at 0 by 2;");
            for (int i = 0; i < many; i++) {
                x.press(i % 3);
            }
            int left = Math.max(0, many - 100);
            for (int i = many - 1; i >= left; i--) {
                CHECK.due("back " + i + " of " + many, x.back(), i % 3);
            }
            CHECK.due("back beyond the latest 100", x.back(), -1);
            LampHall y = CHECK.hall("colours 5;net 3;self;button 1 at 0 by 2;");
            for (int i = 0; i < left; i++) {
                y.press(i % 3);
            }
            CHECK.due("what is left of " + many, Check.colours(x, 0), Check.colours(y, 0));
        }
    }

    private static void nothingAtFirst() {
        LampHall x = CHECK.hall("colours 3;net 2;self;");
        for (int slot = 0; slot < 4; slot++) {
            CHECK.due("slot " + slot + " at first", x.take(slot, 0), false);
            CHECK.due("as a wish", x.take(slot, 1), false);
        }
        CHECK.due("slot 0", x.keep(0), true);
        CHECK.due("slot 3", x.keep(3), true);
        CHECK.due("slot 4", x.keep(4), false);
        CHECK.due("slot -1", x.keep(-1), false);
        CHECK.due("slot 1 still", x.take(1, 0), false);
        CHECK.due("slot 2 still", x.take(2, 0), false);
        LampHall y = CHECK.hall("colours 3;net 36;");
        y.fill(0, 2);
        y.keep(3);
        y.fill(0, 0);
        y.take(3, 0);
        shows(y, "2".repeat(36), "0".repeat(36), 0);
    }

    private static void stateAndWish() {
        LampHall x = CHECK.hall("colours 5;net 36;");
        x.set(0, 0, 4);
        x.set(35, 0, 3);
        x.set(0, 1, 2);
        x.set(35, 1, 1);
        CHECK.due("the first in the state", x.colour(0, 0), 4);
        CHECK.due("the last in the state", x.colour(35, 0), 3);
        CHECK.due("the first in the wish", x.colour(0, 1), 2);
        CHECK.due("the last in the wish", x.colour(35, 1), 1);
    }

    private static void colourOfAnother() {
        LampHall x = CHECK.hall("colours 2;net 3;");
        for (int what : NO_WHATS) {
            CHECK.none("colour(0, " + what + ")", () -> x.colour(0, what));
            CHECK.none("colour(3, " + what + ")", () -> x.colour(3, what));
        }
        for (int lamp : NO_LAMP_OF_THREE) {
            CHECK.none("colour(" + lamp + ", 0)", () -> x.colour(lamp, 0));
            CHECK.none("colour(" + lamp + ", 1)", () -> x.colour(lamp, 1));
        }
    }

    private static LampHall pressedOnce() {
        LampHall x = CHECK.hall("colours 3;net 3;self;");
        x.press(1);
        return x;
    }

    private static void setTells() {
        LampHall x = pressedOnce();
        CHECK.due("set of the wish", x.set(2, 1, 2), true);
        shows(x, "010", "002", 1);
        CHECK.due("set of the state", x.set(0, 0, 2), true);
        shows(x, "210", "002", 0);
        CHECK.due("back", x.back(), -1);
        LampHall y = pressedOnce();
        CHECK.due("set of what is there already", y.set(1, 0, 1), true);
        shows(y, "010", "000", 0);
        LampHall z = pressedOnce();
        CHECK.due("set of the last lamp", z.set(2, 0, 0), true);
        shows(z, "010", "000", 0);
    }

    private static void setOfNoColour() {
        for (int q : new int[] {2, 3, 5}) {
            LampHall x = CHECK.hall("colours " + q + ";net 3;self;");
            x.press(1);
            for (int colour : new int[] {-1, q, q + 1, Integer.MIN_VALUE, Integer.MAX_VALUE}) {
                CHECK.due("set of colour " + colour + " of " + q, x.set(1, 0, colour), false);
                CHECK.due("in the wish", x.set(1, 1, colour), false);
            }
            shows(x, "010", "000", 1);
            CHECK.due("set of the last colour", x.set(1, 1, q - 1), true);
            CHECK.due("set of the first colour", x.set(1, 1, 0), true);
        }
    }

    private static void setOfAnother() {
        LampHall x = pressedOnce();
        for (int what : NO_WHATS) {
            CHECK.none("set(0, " + what + ", 1)", () -> x.set(0, what, 1));
        }
        for (int lamp : NO_LAMP_OF_THREE) {
            CHECK.none("set(" + lamp + ", 0, 1)", () -> x.set(lamp, 0, 1));
            CHECK.none("set(" + lamp + ", 1, 1)", () -> x.set(lamp, 1, 1));
        }
        CHECK.none("wrong what and colour", () -> x.set(0, 2, 3));
        CHECK.none("wrong lamp and colour", () -> x.set(3, 0, 3));
        shows(x, "010", "000", 1);
    }

    private static void fillsAll() {
        LampHall x = pressedOnce();
        CHECK.due("fill of the wish", x.fill(1, 2), true);
        shows(x, "010", "222", 1);
        CHECK.due("fill of the state", x.fill(0, 1), true);
        shows(x, "111", "222", 0);
        CHECK.due("fill with the first colour", x.fill(0, 0), true);
        shows(x, "000", "222", 0);
        LampHall y = CHECK.hall("colours 5;board 6 6;");
        CHECK.due("fill of all 36", y.fill(0, 4), true);
        shows(y, "4".repeat(36), "0".repeat(36), 0);
        CHECK.due("fill of no lamps", new LampHall().fill(1, 1), true);
    }

    private static void fillOfNoColour() {
        for (int q : new int[] {2, 3, 5}) {
            LampHall x = CHECK.hall("colours " + q + ";net 3;self;");
            x.press(1);
            for (int colour : new int[] {-1, q, q + 1, Integer.MIN_VALUE, Integer.MAX_VALUE}) {
                CHECK.due("fill of colour " + colour + " of " + q, x.fill(0, colour), false);
                CHECK.due("in the wish", x.fill(1, colour), false);
            }
            shows(x, "010", "000", 1);
            CHECK.due("fill of the last colour", x.fill(1, q - 1), true);
        }
        CHECK.due("fill of no lamps with no colour", new LampHall().fill(0, 2), false);
    }

    private static void fillOfAnother() {
        LampHall x = pressedOnce();
        for (int what : NO_WHATS) {
            CHECK.none("fill(" + what + ", 1)", () -> x.fill(what, 1));
            CHECK.none("fill(" + what + ", 3)", () -> x.fill(what, 3));
        }
        shows(x, "010", "000", 1);
        CHECK.none("fill of no lamps", () -> new LampHall().fill(2, 0));
    }

    private static void drawsState() {
        LampHall x = CHECK.hall("colours 2;net 3;self;");
        x.fill(1, 1);
        x.press(1);
        x.draw(0);
        CHECK.due("presses", x.count(5), 0);
        CHECK.due("back", x.back(), -1);
        CHECK.due("wish", Check.colours(x, 1), "111");
        // 12345 has nothing in bits 16 to 30.
        CHECK.due("the first lamp", x.colour(0, 0), 0);
        LampHall none = new LampHall();
        none.draw(7);
        CHECK.due("no lamps", none.count(0), 0);
    }

    private static void drawWraps() {
        BigInteger whole = BigInteger.ONE.shiftLeft(32);
        for (int q : new int[] {2, 3, 5}) {
            LampHall x = CHECK.hall("colours " + q + ";net 36;");
            for (int seed : new int[] {0, 1, -1, 2, 12345, 1103515245, Integer.MIN_VALUE, Integer.MAX_VALUE, 0x7fff0000}) {
                StringBuilder want = new StringBuilder();
                BigInteger number = BigInteger.valueOf(seed);
                for (int lamp = 0; lamp < 36; lamp++) {
                    number = number.multiply(BigInteger.valueOf(1103515245)).add(BigInteger.valueOf(12345)).mod(whole);
                    want.append(number.shiftRight(16).intValue() % 32768 % q);
                }
                x.draw(seed);
                CHECK.due("draw(" + seed + ") of " + q, Check.colours(x, 0), want.toString());
            }
        }
        LampHall y = CHECK.hall("colours 5;board 3 2;");
        y.draw(1);
        // 16838, 5758, 10113, 17515, 31051 and 5627, each MOD 5.
        CHECK.due("draw(1)", Check.colours(y, 0), "333012");
    }

    private static void whetherItWas() {
        LampHall x = CHECK.hall("colours 2;net 36;self;jam 35;");
        CHECK.due("the last, jammed by the text", x.jam(35, true), true);
        CHECK.due("it is so still", x.jam(35, false), true);
        CHECK.due("now it isn't", x.jam(35, false), false);
        CHECK.due("nor does that jam it", x.press(35), true);
        CHECK.due("the first", x.jam(0, true), false);
        CHECK.due("once more", x.jam(0, true), true);
        CHECK.due("press of it", x.press(0), false);
        CHECK.due("jams", x.count(7), 1);
        for (int button : new int[] {-1, 36, Integer.MIN_VALUE, Integer.MAX_VALUE}) {
            CHECK.none("jam(" + button + ", true)", () -> x.jam(button, true));
            CHECK.none("jam(" + button + ", false)", () -> x.jam(button, false));
        }
        CHECK.due("jams", x.count(7), 1);
        LampHall y = pressedOnce();
        y.jam(1, true);
        shows(y, "010", "000", 1);
    }

    private static void pressed() {
        LampHall x = CHECK.hall("colours 3;net 3;self by 2;button 2 at 0;");
        CHECK.due("the last button", x.press(2), true);
        shows(x, "102", "000", 1);
        CHECK.due("again", x.press(2), true);
        CHECK.due("again", x.press(2), true);
        shows(x, "000", "000", 3);
        CHECK.due("one that steps nothing", CHECK.hall("colours 2;net 1;").press(0), true);
        for (int button : NO_LAMP_OF_THREE) {
            CHECK.none("press(" + button + ")", () -> x.press(button));
        }
        shows(x, "000", "000", 3);
    }

    private static void pressOfJammed() {
        LampHall x = CHECK.hall("colours 3;net 3;self;jam 2;");
        x.press(0);
        CHECK.due("press", x.press(2), false);
        shows(x, "100", "000", 1);
        x.jam(2, false);
        CHECK.due("press of one that isn't any more", x.press(2), true);
        x.jam(0, true);
        CHECK.due("press", x.press(0), false);
        shows(x, "101", "000", 2);
    }

    private static void takenBack() {
        LampHall x = CHECK.hall("colours 5;net 3;self by 3;button 0 at 2 by 4;");
        x.press(2);
        x.press(0);
        x.press(0);
        CHECK.due("back", x.back(), 0);
        shows(x, "302", "000", 2);
        x.press(1);
        CHECK.due("back of a later one", x.back(), 1);
        CHECK.due("back", x.back(), 0);
        CHECK.due("back of the last button", x.back(), 2);
        shows(x, "000", "000", 0);
        x.press(1);
        x.jam(1, true);
        CHECK.due("back of one that is jammed by now", x.back(), 1);
        shows(x, "000", "000", 0);
    }

    private static void nothingToTakeBack() {
        CHECK.due("back of a new object", new LampHall().back(), -1);
        LampHall x = CHECK.hall("colours 3;net 3;self;");
        x.set(0, 0, 2);
        CHECK.due("back", x.back(), -1);
        shows(x, "200", "000", 0);
        x.press(0);
        CHECK.due("back", x.back(), 0);
        CHECK.due("back", x.back(), -1);
        CHECK.due("back", x.back(), -1);
        shows(x, "200", "000", 0);
    }

    private static void keeps() {
        LampHall x = pressedOnce();
        for (int slot = 0; slot < 4; slot++) {
            CHECK.due("keep", x.keep(slot), true);
            shows(x, "010", "000", 1);
        }
        x.press(2);
        CHECK.due("keep anew", x.keep(3), true);
        x.fill(0, 2);
        x.take(3, 0);
        shows(x, "011", "000", 0);
        x.take(0, 1);
        shows(x, "011", "010", 0);
        CHECK.due("keep of no lamps", new LampHall().keep(0), true);
    }

    private static void keepInNoSlot() {
        LampHall x = pressedOnce();
        for (int slot : NO_SLOTS) {
            CHECK.due("keep(" + slot + ")", x.keep(slot), false);
        }
        for (int slot = 0; slot < 4; slot++) {
            CHECK.due("nothing is kept", x.take(slot, 1), false);
        }
        shows(x, "010", "000", 1);
    }

    private static void takes() {
        for (int slot = 0; slot < 4; slot++) {
            LampHall x = pressedOnce();
            x.keep(slot);
            x.press(0);
            CHECK.due("take as the wish", x.take(slot, 1), true);
            shows(x, "110", "010", 2);
            CHECK.due("take as the state", x.take(slot, 0), true);
            shows(x, "010", "010", 0);
            CHECK.due("back", x.back(), -1);
            x.press(2);
            CHECK.due("take as it is", x.take(slot, 0), true);
            shows(x, "010", "010", 0);
        }
        LampHall y = pressedOnce();
        y.keep(0);
        CHECK.due("take of what the state is", y.take(0, 0), true);
        shows(y, "010", "000", 0);
    }

    private static void takeOfNothing() {
        LampHall x = pressedOnce();
        x.keep(1);
        x.press(1);
        for (int slot : new int[] {0, 2, 3, -1, 4, Integer.MIN_VALUE, Integer.MAX_VALUE}) {
            CHECK.due("take(" + slot + ", 0)", x.take(slot, 0), false);
            CHECK.due("take(" + slot + ", 1)", x.take(slot, 1), false);
        }
        shows(x, "020", "000", 2);
        CHECK.due("take of a new object", new LampHall().take(0, 0), false);
    }

    private static void takeOfAnother() {
        LampHall x = pressedOnce();
        x.keep(0);
        x.press(1);
        for (int what : NO_WHATS) {
            CHECK.none("take(0, " + what + ")", () -> x.take(0, what));
            CHECK.none("take of nothing", () -> x.take(1, what));
            CHECK.none("take of no slot", () -> x.take(4, what));
        }
        shows(x, "020", "000", 2);
    }
}

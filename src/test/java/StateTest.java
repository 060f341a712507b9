/** Promises 7 to 13, 33 and 34: colours told and drawn, jams, presses and their way back, slots. */
public final class StateTest {
    private static final Check CHECK = new Check("StateTest");
    private static final int[] NO_WHATS = {-1, 2, Integer.MIN_VALUE, Integer.MAX_VALUE};

    public static void main(String[] args) {
        colour();
        set();
        fill();
        draw();
        jam();
        press();
        back();
        latestHundred();
        backOfJammed();
        slots();
        takeOfNothing();
        CHECK.end();
    }

    private static void colour() {
        LampHall x = CHECK.hall("colours 3;net 3;self;");
        CHECK.row(x, 0, "012");
        CHECK.row(x, 1, "201");
        CHECK.due("state", Check.colours(x, 0), "012");
        CHECK.due("wish", Check.colours(x, 1), "201");
        for (int what : NO_WHATS) {
            CHECK.none("colour(0, " + what + ")", () -> x.colour(0, what));
        }
        for (int lamp : new int[] {-1, 3, 36, Integer.MIN_VALUE}) {
            CHECK.none("colour(" + lamp + ", 0)", () -> x.colour(lamp, 0));
            CHECK.none("colour(" + lamp + ", 1)", () -> x.colour(lamp, 1));
        }
    }

    private static void set() {
        LampHall x = CHECK.hall("colours 3;net 3;self;");
        x.press(1);
        CHECK.due("set of the wish", x.set(0, 1, 2), true);
        CHECK.due("presses stay", x.count(5), 1);
        CHECK.due("set of no colour", x.set(0, 0, 3), false);
        CHECK.due("set of no colour", x.set(0, 0, -1), false);
        CHECK.due("set of no colour in the wish", x.set(0, 1, Integer.MIN_VALUE), false);
        CHECK.due("presses stay", x.count(5), 1);
        CHECK.due("state", Check.colours(x, 0), "010");
        CHECK.due("wish", Check.colours(x, 1), "200");
        for (int what : NO_WHATS) {
            CHECK.none("set(0, " + what + ", 1)", () -> x.set(0, what, 1));
            CHECK.none("set(0, " + what + ", 9)", () -> x.set(0, what, 9));
        }
        CHECK.none("set(3, 0, 1)", () -> x.set(3, 0, 1));
        CHECK.none("set(-1, 1, 9)", () -> x.set(-1, 1, 9));
        CHECK.due("presses stay", x.count(5), 1);
        CHECK.due("set of the state", x.set(1, 0, 1), true);
        CHECK.due("no press can be taken back", x.count(5), 0);
        CHECK.due("back", x.back(), -1);
        CHECK.due("state", Check.colours(x, 0), "010");
    }

    private static void fill() {
        LampHall x = CHECK.hall("colours 5;net 3;self;");
        x.press(1);
        CHECK.due("fill of the wish", x.fill(1, 4), true);
        CHECK.due("wish", Check.colours(x, 1), "444");
        CHECK.due("state", Check.colours(x, 0), "010");
        CHECK.due("fill of no colour", x.fill(0, 5), false);
        CHECK.due("fill of no colour", x.fill(1, -1), false);
        CHECK.due("presses stay", x.count(5), 1);
        for (int what : NO_WHATS) {
            CHECK.none("fill(" + what + ", 1)", () -> x.fill(what, 1));
            CHECK.none("fill(" + what + ", 7)", () -> x.fill(what, 7));
        }
        CHECK.due("fill of the state", x.fill(0, 3), true);
        CHECK.due("state", Check.colours(x, 0), "333");
        CHECK.due("wish", Check.colours(x, 1), "444");
        CHECK.due("no press can be taken back", x.back(), -1);
    }

    private static void draw() {
        LampHall x = CHECK.hall("colours 5;board 3 2;self;");
        x.press(1);
        x.draw(1);
        CHECK.due("no press can be taken back", x.count(5), 0);
        // 1 * 1103515245 + 12345 = 1103527590, whose bits 16 to 30 are 16838; then 5758, 10113, 17515, 31051, 5627.
        CHECK.due("state", Check.colours(x, 0), "333012");
        CHECK.due("wish", Check.colours(x, 1), "000000");
        x.draw(Integer.MIN_VALUE);
        // Highest bit and 12345: bits 16 to 30 are 0 of the first.
        CHECK.due("the first lamp", x.colour(0, 0), 0);
    }

    private static void jam() {
        LampHall x = CHECK.hall("colours 2;net 3;self;jam 2;");
        CHECK.due("jam 2", x.jam(2, true), true);
        CHECK.due("unjam 2", x.jam(2, false), true);
        CHECK.due("unjam 2 again", x.jam(2, false), false);
        CHECK.due("jam 0", x.jam(0, true), false);
        CHECK.due("how many", x.count(7), 1);
        CHECK.due("rank", x.rank(), 2);
        x.jam(0, false);
        CHECK.due("rank without", x.rank(), 3);
        CHECK.none("jam(3, true)", () -> x.jam(3, true));
        CHECK.none("jam(-1, false)", () -> x.jam(-1, false));
    }

    private static void press() {
        LampHall x = CHECK.hall("colours 3;board 2 2;self by 2;side;jam 3;");
        CHECK.due("press 0", x.press(0), true);
        CHECK.due("state", Check.colours(x, 0), "2110");
        CHECK.due("press 0", x.press(0), true);
        CHECK.due("state", Check.colours(x, 0), "1220");
        CHECK.due("press 3", x.press(3), false);
        CHECK.due("state", Check.colours(x, 0), "1220");
        CHECK.due("presses", x.count(5), 2);
        CHECK.due("wish", Check.colours(x, 1), "0000");
        for (int button : new int[] {4, -1, Integer.MAX_VALUE}) {
            CHECK.none("press(" + button + ")", () -> x.press(button));
        }
    }

    private static void back() {
        LampHall x = CHECK.hall("colours 5;net 3;self by 3;button 0 at 2 by 4;");
        x.press(0);
        x.press(2);
        x.press(0);
        CHECK.due("state", Check.colours(x, 0), "101");
        CHECK.due("back", x.back(), 0);
        CHECK.due("state", Check.colours(x, 0), "302");
        CHECK.due("back", x.back(), 2);
        CHECK.due("back", x.back(), 0);
        CHECK.due("state", Check.colours(x, 0), "000");
        CHECK.due("back", x.back(), -1);
        CHECK.due("state", Check.colours(x, 0), "000");
    }

    private static void latestHundred() {
        LampHall x = CHECK.hall("colours 5;net 3;self;");
        for (int i = 0; i < 103; i++) {
            x.press(i % 3);
            CHECK.due("presses", x.count(5), Math.min(i + 1, 100));
        }
        for (int i = 102; i >= 3; i--) {
            CHECK.due("back " + i, x.back(), i % 3);
        }
        CHECK.due("back", x.back(), -1);
        CHECK.due("state", Check.colours(x, 0), "111");
    }

    private static void backOfJammed() {
        LampHall x = CHECK.hall("colours 3;net 2;self;");
        x.press(1);
        x.jam(1, true);
        CHECK.due("presses", x.count(5), 1);
        CHECK.due("back", x.back(), 1);
        CHECK.due("state", Check.colours(x, 0), "00");
    }

    private static void slots() {
        LampHall x = CHECK.hall("colours 3;net 2;self;");
        for (int slot = 0; slot < 4; slot++) {
            CHECK.due("take of an empty slot", x.take(slot, 0), false);
        }
        for (int slot = 0; slot < 4; slot++) {
            x.set(0, 0, slot % 3);
            x.set(1, 0, slot / 2);
            CHECK.due("keep", x.keep(slot), true);
        }
        x.press(0);
        CHECK.due("keep leaves presses", x.count(5), 1);
        CHECK.due("take as the wish", x.take(2, 1), true);
        CHECK.due("wish", Check.colours(x, 1), "21");
        CHECK.due("presses stay", x.count(5), 1);
        CHECK.due("take as the state", x.take(1, 0), true);
        CHECK.due("state", Check.colours(x, 0), "10");
        CHECK.due("no press can be taken back", x.count(5), 0);
        x.press(0);
        CHECK.due("take once more", x.take(1, 0), true);
        CHECK.due("state", Check.colours(x, 0), "10");
        x.keep(2);
        x.take(2, 1);
        CHECK.due("what was kept later", Check.colours(x, 1), "10");
        CHECK.due("keep(4)", x.keep(4), false);
        CHECK.due("keep(-1)", x.keep(-1), false);
    }

    private static void takeOfNothing() {
        LampHall x = CHECK.hall("colours 3;net 2;self;");
        x.keep(0);
        x.press(1);
        CHECK.due("take(1, 0)", x.take(1, 0), false);
        CHECK.due("take(4, 0)", x.take(4, 0), false);
        CHECK.due("take(-1, 1)", x.take(-1, 1), false);
        CHECK.due("take(MAX, 1)", x.take(Integer.MAX_VALUE, 1), false);
        CHECK.due("presses stay", x.count(5), 1);
        for (int what : NO_WHATS) {
            CHECK.none("take(0, " + what + ")", () -> x.take(0, what));
            CHECK.none("take(9, " + what + ")", () -> x.take(9, what));
        }
    }
}

/** Promises 28 and 29: buttons that work only while lit, and who presses last. */
public final class LitTest {
    private static final Check CHECK = new Check("LitTest");

    public static void main(String[] args) {
        lit();
        litToAWish();
        leastFirstButton();
        noWay();
        litOfJammed();
        litFollowsWhatChanges();
        litLimits();
        game();
        gameOfOnce();
        gameOfJammed();
        gameLimits();
        CHECK.end();
    }

    private static void litIs(LampHall x, int presses, int first, int states) {
        CHECK.due("lit(0)", x.lit(0), presses);
        CHECK.due("lit(1)", x.lit(1), first);
        CHECK.due("lit(2)", x.lit(2), states);
    }

    private static void lit() {
        LampHall x = CHECK.hall("colours 3;net 2;self;");
        litIs(x, 0, -1, 1);
        CHECK.row(x, 0, "01");
        litIs(x, 2, 1, 3);
        CHECK.row(x, 0, "12");
        litIs(x, 3, 0, 6);
        CHECK.due("the state stays", Check.colours(x, 0), "12");
        for (int what : new int[] {-1, 3, Integer.MIN_VALUE, Integer.MAX_VALUE}) {
            CHECK.none("lit(" + what + ")", () -> x.lit(what));
        }
    }

    private static void litToAWish() {
        LampHall x = CHECK.hall("colours 2;net 3;self;button 0 at 1;button 1 at 2;");
        CHECK.row(x, 0, "100");
        CHECK.row(x, 1, "001");
        // 100 to 010 to 001.
        litIs(x, 2, 0, 4);
        CHECK.row(x, 1, "100");
        litIs(x, 0, -1, 4);
    }

    private static void leastFirstButton() {
        LampHall x = CHECK.hall("colours 2;net 4;button 1 at 1;button 1 at 0;button 2 at 1;button 2 at 0;button 3 at 0;"
            + "button 3 at 1;");
        CHECK.row(x, 0, "1111");
        CHECK.row(x, 1, "0011");
        litIs(x, 1, 1, 2);
        CHECK.row(x, 0, "0011");
        CHECK.row(x, 1, "1111");
        litIs(x, 1, 2, 2);
        LampHall y = CHECK.hall("colours 2;net 4;self;");
        CHECK.row(y, 0, "0111");
        CHECK.row(y, 1, "0001");
        litIs(y, 2, 1, 8);
    }

    private static void noWay() {
        LampHall x = CHECK.hall("colours 2;net 2;self;");
        x.set(0, 1, 1);
        litIs(x, -1, -1, 1);
        x.set(1, 0, 1);
        litIs(x, -1, -1, 2);
    }

    private static void litOfJammed() {
        LampHall x = CHECK.hall("colours 2;net 2;self;");
        x.fill(0, 1);
        x.jam(0, true);
        litIs(x, -1, -1, 2);
        x.jam(0, false);
        litIs(x, 2, 0, 4);
    }

    private static void litFollowsWhatChanges() {
        LampHall x = CHECK.hall("colours 3;net 2;self;");
        x.fill(0, 1);
        CHECK.due("lit", x.lit(0), 4);
        x.press(0);
        CHECK.due("behind a press", x.lit(0), 3);
        x.back();
        CHECK.due("behind a press back", x.lit(0), 4);
        x.set(0, 0, 0);
        CHECK.due("behind set", x.lit(0), 2);
        x.fill(0, 2);
        CHECK.due("behind fill", x.lit(0), 2);
        x.set(1, 1, 2);
        CHECK.due("behind set of the wish", x.lit(0), 1);
        x.fill(1, 0);
        CHECK.due("behind fill of the wish", x.lit(0), 2);
        x.solve(0);
        x.apply();
        CHECK.due("behind apply", x.lit(0), 0);
        x.fill(0, 1);
        x.keep(0);
        CHECK.due("lit", x.lit(2), 9);
        x.pulse(1);
        CHECK.due("behind a pulse", x.lit(0), 2);
        x.take(0, 0);
        CHECK.due("behind take", x.lit(0), 4);
        x.take(0, 1);
        CHECK.due("behind take of the wish", x.lit(0), 0);
        x.draw(1);
        // 16838 and 5758 MOD 3 are 2 and 1.
        CHECK.due("behind draw", x.lit(0), -1);
        x.fill(1, 0);
        CHECK.due("lit", x.lit(0), 3);
        CHECK.due("game uses the same room", x.game(), -1);
        CHECK.due("lit", x.lit(0), 3);
        CHECK.due("hard uses the same room", x.hard(-1), 4);
        CHECK.due("lit", x.lit(2), 6);
        LampHall y = CHECK.hall("colours 2;board 1 2;self;side;");
        y.fill(0, 1);
        CHECK.due("lit", y.lit(0), 1);
        y.chase();
        CHECK.due("behind chase", y.lit(0), 0);
        y.fill(0, 1);
        CHECK.due("lit", y.lit(0), 1);
        Check.tell(y, "colours 2;net 1;self;");
        CHECK.due("behind hall", y.lit(0), 0);
    }

    private static void litLimits() {
        int[][] most = {{2, 14, 16384}, {3, 9, 19683}, {5, 6, 15625}};
        for (int[] one : most) {
            LampHall x = CHECK.hall("colours " + one[0] + ";net " + one[1] + ";self;");
            x.fill(0, 1);
            litIs(x, one[1] * (one[0] - 1), 0, one[2]);
            LampHall y = CHECK.hall("colours " + one[0] + ";net " + (one[1] + 1) + ";self;");
            litIs(y, -2, -2, -2);
            CHECK.none("another what", () -> y.lit(3));
        }
    }

    private static void game() {
        LampHall x = CHECK.hall("colours 2;net 12;self;");
        CHECK.due("nothing is lit", x.game(), -1);
        x.fill(0, 1);
        CHECK.due("an even number", x.game(), -1);
        x.set(0, 0, 0);
        CHECK.due("an odd number", x.game(), 1);
        CHECK.due("the state stays", Check.colours(x, 0), "011111111111");
        LampHall y = CHECK.hall("colours 2;net 3;self;button 0 at 1;button 2 at 1;button 2 at 0;");
        y.fill(0, 1);
        // 0 leaves 001: 2 goes to 110, then 1 is left to the first, 100, 0 was pressed: the second has lost, too.
        CHECK.due("game", y.game(), new Brute(y).winning(0));
    }

    /** Plays a hall of two colours through. */
    private static final class Brute {
        private final LampHall x;

        Brute(LampHall x) {
            this.x = x;
        }

        int winning(int used) {
            for (int button = 0; button < x.count(0); button++) {
                if ((used >> button & 1) == 0 && x.colour(button, 0) != 0) {
                    x.press(button);
                    int answer = winning(used | 1 << button);
                    x.back();
                    if (answer == -1) {
                        return button;
                    }
                }
            }
            return -1;
        }
    }

    private static void gameOfOnce() {
        LampHall x = CHECK.hall("colours 3;net 1;self;");
        x.fill(0, 1);
        CHECK.due("once, though it is lit still", x.game(), 0);
        LampHall y = CHECK.hall("colours 3;net 2;self;");
        y.fill(0, 1);
        CHECK.due("two of them", y.game(), -1);
        LampHall z = CHECK.hall("colours 2;board 3 3;self;side;");
        z.fill(0, 1);
        CHECK.due("3 by 3", z.game(), new Brute(z).winning(0));
    }

    private static void gameOfJammed() {
        LampHall x = CHECK.hall("colours 2;net 3;self;jam 0;");
        x.fill(0, 1);
        CHECK.due("two are left", x.game(), -1);
        x.jam(1, true);
        CHECK.due("one is left", x.game(), 2);
        x.jam(2, true);
        CHECK.due("none is left", x.game(), -1);
    }

    private static void gameLimits() {
        CHECK.due("13 lamps", CHECK.hall("colours 2;net 13;self;").game(), -2);
        LampHall x = CHECK.hall("colours 5;board 6 2;self;side;");
        x.fill(0, 4);
        CHECK.due("12 lamps", x.game() >= -1, true);
    }
}

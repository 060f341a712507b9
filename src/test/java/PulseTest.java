/** Promises 30 to 32: pulses, how they come round, and twins. */
public final class PulseTest {
    private static final Check CHECK = new Check("PulseTest");
    private static final String LONG_ROUND = "button 3 at 7;button 6 at 7;button 1 at 4;button 1 at 1;button 1 at 4;"
        + "button 4 at 1;button 3 at 0;button 2 at 5;button 0 at 1;button 3 at 2;button 1 at 0;button 4 at 2;button 5 at 6;";

    public static void main(String[] args) {
        pulse();
        pulseOfJammed();
        pulseLimits();
        round();
        roundFollowsWhatChanges();
        roundWithin300();
        twin();
        CHECK.end();
    }

    private static void pulse() {
        LampHall x = CHECK.hall("colours 3;net 2;self;side;wire 0 1;button 0 at 1;");
        x.set(0, 0, 1);
        CHECK.due("pulse", x.pulse(1), true);
        CHECK.due("state", Check.colours(x, 0), "22");
        CHECK.due("pulse", x.pulse(2), true);
        CHECK.due("state", Check.colours(x, 0), "21");
        LampHall y = CHECK.hall("colours 5;net 3;button 0 at 1;button 1 at 2 by 2;");
        CHECK.row(y, 0, "310");
        // All at once: button 1 counts 1, though button 0 makes its lamp 4.
        y.pulse(1);
        CHECK.due("state", Check.colours(y, 0), "342");
        CHECK.due("wish", Check.colours(y, 1), "000");
    }

    private static void pulseOfJammed() {
        LampHall x = CHECK.hall("colours 5;net 3;button 0 at 1;button 1 at 2 by 2;jam 0;");
        CHECK.row(x, 0, "310");
        x.pulse(1);
        CHECK.due("state", Check.colours(x, 0), "312");
    }

    private static void pulseLimits() {
        LampHall x = CHECK.hall("colours 5;net 1;self by 2;");
        x.press(0);
        for (int many : new int[] {-1, 101, Integer.MIN_VALUE, Integer.MAX_VALUE}) {
            CHECK.due("pulse(" + many + ")", x.pulse(many), false);
        }
        CHECK.due("state", Check.colours(x, 0), "2");
        CHECK.due("presses stay", x.count(5), 1);
        CHECK.due("pulse(0)", x.pulse(0), true);
        CHECK.due("state", Check.colours(x, 0), "2");
        CHECK.due("no press can be taken back", x.count(5), 0);
        x.press(0);
        CHECK.due("pulse(1)", x.pulse(1), true);
        CHECK.due("state", Check.colours(x, 0), "2");
        CHECK.due("back", x.back(), -1);
        // Each pulse makes it three times itself, four of which are nothing.
        CHECK.due("pulse(99)", x.pulse(99), true);
        CHECK.due("state", Check.colours(x, 0), "4");
        CHECK.due("pulse(100)", x.pulse(100), true);
        CHECK.due("state", Check.colours(x, 0), "4");
    }

    private static void comesRound(LampHall x, int after, int every) {
        CHECK.due("round(0)", x.round(0), after);
        CHECK.due("round(1)", x.round(1), every);
    }

    private static void round() {
        LampHall x = CHECK.hall("colours 5;net 3;self by 4;button 0 at 1;button 1 at 2;");
        comesRound(x, 0, 1);
        // A row that goes on by one lamp each time, and out at the end.
        CHECK.row(x, 0, "100");
        comesRound(x, 3, 1);
        CHECK.row(x, 0, "010");
        comesRound(x, 2, 1);
        CHECK.due("the state stays", Check.colours(x, 0), "010");
        LampHall y = CHECK.hall("colours 5;net 2;button 0 at 0 by 2;self by 4;button 1 at 1;");
        CHECK.row(y, 0, "11");
        comesRound(y, 0, 4);
        for (int what : new int[] {-1, 2, Integer.MIN_VALUE}) {
            CHECK.none("round(" + what + ")", () -> x.round(what));
        }
        LampHall z = CHECK.hall("colours 5;net 36;self by 4;button 34 at 35;button 35 at 34;button 0 at 17;button 17 at 0;");
        z.set(35, 0, 1);
        comesRound(z, 0, 2);
        z.fill(0, 0);
        z.set(17, 0, 4);
        comesRound(z, 0, 2);
        z.set(1, 0, 1);
        comesRound(z, 1, 2);
    }

    private static void roundFollowsWhatChanges() {
        LampHall x = CHECK.hall("colours 5;net 3;self by 4;button 0 at 1;button 1 at 2;");
        comesRound(x, 0, 1);
        x.set(0, 0, 1);
        comesRound(x, 3, 1);
        x.pulse(1);
        comesRound(x, 2, 1);
        x.fill(0, 1);
        comesRound(x, 3, 1);
        x.jam(1, true);
        // Lamp 1 stays then, and button 0 adds to it but once.
        comesRound(x, 1, 1);
        x.jam(1, false);
        x.fill(0, 0);
        comesRound(x, 0, 1);
        x.press(1);
        comesRound(x, 2, 1);
        x.back();
        comesRound(x, 0, 1);
    }

    private static void roundWithin300() {
        LampHall x = CHECK.hall("colours 5;net 8;" + LONG_ROUND);
        x.draw(821);
        comesRound(x, 0, 300);
        LampHall y = CHECK.hall("colours 5;net 9;" + LONG_ROUND + "button 8 at 8 by 4;");
        y.draw(821);
        y.set(8, 0, 1);
        comesRound(y, -1, -1);
        y.set(8, 0, 0);
        comesRound(y, 0, 300);
        y.set(8, 0, 3);
        comesRound(y, -1, -1);
        LampHall z = CHECK.hall("colours 5;board 6 6 both;self;side by 2;leap;");
        z.draw(3);
        int after = z.round(0);
        int every = z.round(1);
        z.keep(0);
        checkRound(z, after, every);
    }

    /** What comes round as it was told: no state like another before, and the first like one just there. */
    private static void checkRound(LampHall x, int after, int every) {
        java.util.Map<String, Integer> seen = new java.util.HashMap<>();
        for (int made = 0; made <= 300; made++) {
            Integer at = seen.putIfAbsent(Check.colours(x, 0), made);
            if (at != null) {
                CHECK.due("after", after, at);
                CHECK.due("every", every, made - at);
                return;
            }
            x.pulse(1);
        }
        CHECK.due("after", after, -1);
        CHECK.due("every", every, -1);
    }

    private static void twin() {
        LampHall x = CHECK.hall("colours 3;board 3 2;row by 2;button 1 at 5;jam 0;");
        int[] least = {0, 1, 0, 3, 3, 3};
        for (int button = 0; button < 6; button++) {
            CHECK.due("twin(" + button + ")", x.twin(button), least[button]);
        }
        x.jam(5, true);
        CHECK.due("jammed or not", x.twin(5), 3);
        CHECK.due("buttons that do nothing", CHECK.hall("colours 2;net 36;").twin(35), 0);
        for (int button : new int[] {-1, 6, Integer.MAX_VALUE}) {
            CHECK.none("twin(" + button + ")", () -> x.twin(button));
        }
    }
}

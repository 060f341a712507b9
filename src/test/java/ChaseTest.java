/** Promises 26 and 27: rows chased from the top, and the top rows by which all becomes as wished. */
public final class ChaseTest {
    private static final Check CHECK = new Check("ChaseTest");

    public static void main(String[] args) {
        chase();
        chaseToAWish();
        chaseOfJammed();
        chaseThatCantBe();
        chaseOfOneRow();
        chaseIsLogged();
        top();
        topIsFirstOfLike();
        topOfJammed();
        topOfOneRow();
        topOfNone();
        CHECK.end();
    }

    private static void chase() {
        LampHall x = CHECK.hall("colours 2;board 5 5;self;side;");
        CHECK.row(x, 0, "1000000000000000000000000");
        CHECK.due("chase", x.chase(), 8);
        CHECK.due("state", Check.colours(x, 0), "00000000000000000000" + "00001");
        LampHall y = CHECK.hall("colours 3;board 2 2;self;side by 2;");
        CHECK.row(y, 0, "1200");
        // Button 2 steps lamp 0 by 2, so once; button 3 steps lamp 1 by 2, so twice.
        CHECK.due("chase", y.chase(), 3);
        CHECK.due("state", Check.colours(y, 0), "0021");
        CHECK.due("a net", CHECK.hall("colours 2;net 4;self;side;").chase(), -1);
    }

    private static void chaseToAWish() {
        LampHall x = CHECK.hall("colours 5;board 1 3;side by 3;");
        CHECK.row(x, 1, "142");
        // Lamp 0 lacks 1: button 1 twice (6 is 1), lamp 2 goes to 1 too; lamp 1 lacks 4: button 2 three times (9 is 4).
        CHECK.due("chase", x.chase(), 5);
        CHECK.due("state", Check.colours(x, 0), "141");
        CHECK.due("chase again", x.chase(), 0);
    }

    private static void chaseOfJammed() {
        LampHall x = CHECK.hall("colours 2;board 2 2;self;side;jam 2;");
        CHECK.row(x, 0, "1100");
        CHECK.due("chase", x.chase(), 1);
        CHECK.due("state", Check.colours(x, 0), "1011");
    }

    private static void chaseThatCantBe() {
        LampHall x = CHECK.hall("colours 2;board 2 2;self;button 3 at 1;");
        CHECK.row(x, 0, "1100");
        CHECK.due("chase", x.chase(), 1);
        CHECK.due("state", Check.colours(x, 0), "1001");
    }

    private static void chaseOfOneRow() {
        LampHall x = CHECK.hall("colours 2;board 4 1 both;self;side;");
        x.fill(0, 1);
        CHECK.due("chase", x.chase(), 0);
        CHECK.due("state", Check.colours(x, 0), "1111");
    }

    private static void chaseIsLogged() {
        LampHall x = CHECK.hall("colours 3;board 2 2;self;side by 2;");
        x.press(0);
        CHECK.row(x, 1, "1200");
        CHECK.due("presses before", x.count(5), 1);
        CHECK.due("chase", x.chase(), 0);
        x.fill(0, 0);
        CHECK.due("chase", x.chase(), 3);
        CHECK.due("presses", x.count(5), 3);
        CHECK.due("back", x.back(), 3);
        CHECK.due("back", x.back(), 2);
        CHECK.due("back", x.back(), 2);
        CHECK.due("back", x.back(), -1);
    }

    private static void top() {
        LampHall x = CHECK.hall("colours 2;board 3 3;self;side;");
        x.fill(0, 1);
        CHECK.due("top", x.top(), 5);
        CHECK.due("the state stays", Check.colours(x, 0), "111111111");
        CHECK.due("no press", x.count(5), 0);
        x.press(0);
        x.press(2);
        x.chase();
        CHECK.due("state", Check.colours(x, 0), "000000000");
        CHECK.due("top of what is as wished", x.top(), 0);
        LampHall y = CHECK.hall("colours 5;board 2 1;self;");
        CHECK.row(y, 1, "34");
        CHECK.due("each times q to its column", y.top(), 3 + 4 * 5);
        CHECK.due("a net", CHECK.hall("colours 2;net 4;self;").top(), -1);
    }

    private static void topIsFirstOfLike() {
        LampHall x = CHECK.hall("colours 2;board 5 5;self;side;");
        x.fill(0, 1);
        // Top rows 00011, 01101, 10110 and 11000 do it; as a row the first is 00011, as a number 8 and 16.
        CHECK.due("top", x.top(), 24);
        LampHall y = CHECK.hall("colours 3;board 3 1;row;");
        y.fill(0, 1);
        CHECK.due("top", y.top(), 2 * 9);
        y.jam(2, true);
        CHECK.due("top", y.top(), 2 * 3);
    }

    private static void topOfJammed() {
        LampHall x = CHECK.hall("colours 2;board 3 3;self;side;");
        x.fill(0, 1);
        x.jam(0, true);
        CHECK.due("top", x.top(), -1);
        x.jam(0, false);
        x.jam(1, true);
        CHECK.due("top", x.top(), 5);
        x.jam(7, true);
        CHECK.due("a button that isn't used below", x.top(), 5);
        x.jam(8, true);
        CHECK.due("a button that is used below", x.top(), -1);
    }

    private static void topOfOneRow() {
        LampHall x = CHECK.hall("colours 3;board 4 1;self;");
        CHECK.row(x, 0, "0120");
        CHECK.due("top", x.top(), 2 * 3 + 9);
    }

    private static void topOfNone() {
        LampHall x = CHECK.hall("colours 2;board 5 5;self;side;");
        x.set(0, 0, 1);
        CHECK.due("top", x.top(), -1);
        LampHall y = CHECK.hall("colours 2;board 2 2;self;");
        y.set(3, 0, 1);
        CHECK.due("a chase doesn't do it", y.top(), -1);
        y.set(3, 0, 0);
        y.fill(1, 0);
        CHECK.due("nothing to do", y.top(), 0);
    }
}

import java.nio.charset.StandardCharsets;

/** Promises 1 to 6: a new object, the tape, texts and their faults, counts and amounts. */
public final class TextTest {
    private static final Check CHECK = new Check("TextTest");

    public static void main(String[] args) {
        newObject();
        tape();
        tapeIsUsedUp();
        hallRefusesWhatTheTapeHasNot();
        hallBeginsAnew();
        nothingOfOldHallsIsLeft();
        faultLeavesAll();
        faultsOfHeads();
        faultsOfClauses();
        faultsOfLamps();
        faultsOfManyClauses();
        faultsOfEnds();
        blanks();
        counts();
        boards();
        rings();
        shapesTogether();
        nets();
        amountsThatThereArent();
        CHECK.end();
    }

    private static void newObject() {
        LampHall x = new LampHall();
        int[] want = {0, 2, 0, 0, -1, 0, 0, 0};
        for (int what = 0; what < 8; what++) {
            CHECK.due("count(" + what + ") of a new object", x.count(what), want[what]);
        }
        CHECK.due("fault() of a new object", x.fault(), -1);
        CHECK.due("fill", x.fill(0, 1), true);
        CHECK.due("fill with no such colour", x.fill(0, 2), false);
        CHECK.due("keep", x.keep(3), true);
        CHECK.due("take", x.take(3, 1), true);
        CHECK.due("pulse", x.pulse(100), true);
        x.draw(7);
        CHECK.due("apply with nothing kept", x.apply(), -1);
        CHECK.none("colour", () -> x.colour(0, 0));
        CHECK.none("press", () -> x.press(0));
        CHECK.none("jam", () -> x.jam(0, true));
        CHECK.none("twin", () -> x.twin(0));
    }

    private static void tape() {
        LampHall x = new LampHall();
        for (int many = 20; many <= 500; many += 20) {
            CHECK.due("feed", x.feed(1, 2, 3, 4, 5), many);
            CHECK.due("count(6)", x.count(6), many);
        }
        CHECK.due("feed of a full tape", x.feed(1, 2, 3, 4, 5), -1);
        CHECK.due("count(6) of a full tape", x.count(6), 500);
        CHECK.due("hall(500)", x.hall(500), 1);
        CHECK.due("fault()", x.fault(), 0);
        CHECK.due("feed of an empty tape", x.feed(-1, -1, -1, -1, -1), 20);
    }

    private static void tapeIsUsedUp() {
        LampHall x = new LampHall();
        byte[] text = "colours 2;net 1;jam 0;jam 0;jam 0;".getBytes(StandardCharsets.ISO_8859_1);
        x.feed(Check.four(text, 0), Check.four(text, 4), Check.four(text, 8), Check.four(text, 12), Check.four(text, 16));
        x.feed(Check.four(text, 20), Check.four(text, 24), Check.four(text, 28), Check.four(text, 32), 0);
        CHECK.due("the first 16 bytes", x.hall(16), 0);
        CHECK.due("count(6)", x.count(6), 0);
        CHECK.due("count(7): no clause was read", x.count(7), 0);
        x.feed(0, 0, 0, 0, 0);
        CHECK.due("a text without a byte", x.hall(0), 1);
        CHECK.due("its place", x.fault(), 0);
        CHECK.due("count(6) behind a fault", x.count(6), 0);
        CHECK.due("count(0): the hall stays", x.count(0), 1);
    }

    private static void hallRefusesWhatTheTapeHasNot() {
        LampHall x = new LampHall();
        CHECK.due("hall(1) of nothing", Check.answer(() -> x.hall(1)), "IllegalArgumentException");
        CHECK.due("hall of a fault", Check.tell(x, "colours 2;net 99;"), 2);
        x.feed(0, 0, 0, 0, 0);
        int[] wrong = {21, -1, Integer.MAX_VALUE, Integer.MIN_VALUE};
        for (int n : wrong) {
            CHECK.due("hall(" + n + ")", Check.answer(() -> x.hall(n)), "IllegalArgumentException");
            CHECK.due("the tape stays", x.count(6), 20);
            CHECK.due("the fault stays", x.fault(), 14);
        }
    }

    private static LampHall usedHall() {
        LampHall x = CHECK.hall("colours 3;board 2 1 ring;self;jam 1;");
        CHECK.row(x, 0, "12");
        CHECK.row(x, 1, "21");
        x.keep(2);
        x.set(1, 1, 2);
        CHECK.due("solve", x.solve(0), 1);
        CHECK.due("nearest", x.nearest(), 0);
        x.press(0);
        return x;
    }

    private static void hallBeginsAnew() {
        LampHall x = usedHall();
        CHECK.due("hall", Check.tell(x, "colours 5;net 3;jam 2;"), 0);
        CHECK.due("state", Check.colours(x, 0), "000");
        CHECK.due("wish", Check.colours(x, 1), "000");
        CHECK.due("presses", x.count(5), 0);
        CHECK.due("back", x.back(), -1);
        CHECK.due("jams", x.count(7), 1);
        CHECK.due("button 1 isn't jammed any more", x.jam(1, false), false);
        CHECK.due("a slot", x.take(2, 0), false);
        CHECK.due("apply", x.apply(), -1);
        CHECK.none("times", () -> x.times(0));
        CHECK.none("near", () -> x.near(0));
        CHECK.due("rank", x.rank(), 0);
        CHECK.due("fault", x.fault(), -1);
    }

    /** Of what an earlier hall, or a text with a fault behind it, was told nothing comes again. */
    private static void nothingOfOldHallsIsLeft() {
        String full = "self;side;jam 0;jam 2;button 0 at 0;button 1 at 2 by 2;button 2 at 0;";
        String[] wirings = {"colours 3;net 3;wire 0 1;wire 1 2;wire 2 0;" + full, "colours 5;board 3 1 both;row;" + full};
        String[] bare = {"colours 3;net 3;side;", "colours 3;board 3 1;"};
        for (String wiring : wirings) {
            for (String text : bare) {
                LampHall x = new LampHall();
                for (int i = 0; i < 3; i++) {
                    CHECK.due("hall", Check.tell(x, wiring), 0);
                    for (int slot = 0; slot < 4; slot++) {
                        x.keep(slot);
                    }
                }
                CHECK.due("hall with a fault", Check.tell(x, wiring + "jam 3;"), 4);
                CHECK.due("hall", Check.tell(x, text), 0);
                CHECK.due("columns", x.count(2), text == bare[0] ? 0 : 3);
                CHECK.due("rows", x.count(3), text == bare[0] ? 0 : 1);
                CHECK.due("edges", x.count(4), text == bare[0] ? -1 : 0);
                CHECK.due("jams", x.count(7), 0);
                for (int button = 0; button < 3; button++) {
                    CHECK.due("amounts by " + button, amounts(x, button), "000");
                }
                for (int slot = 0; slot < 4; slot++) {
                    CHECK.due("slot " + slot, x.take(slot, 0), false);
                }
            }
        }
    }

    private static void faultLeavesAll() {
        LampHall x = usedHall();
        CHECK.due("hall", Check.tell(x, "colours 5;net 3;jam 3;"), 4);
        CHECK.due("fault", x.fault(), 20);
        int[] want = {2, 3, 2, 1, 1, 1, 0, 1};
        for (int what = 0; what < 8; what++) {
            CHECK.due("count(" + what + ")", x.count(what), want[what]);
        }
        CHECK.due("amount", x.amount(0, 0), 1);
        CHECK.due("state", Check.colours(x, 0), "22");
        CHECK.due("wish", Check.colours(x, 1), "22");
        CHECK.due("times", x.times(0), 1);
        CHECK.due("near", x.near(0), 2);
        CHECK.due("take", x.take(2, 1), true);
        CHECK.due("what was kept", Check.colours(x, 1), "12");
        CHECK.due("back", x.back(), 0);
        CHECK.due("hall without a fault", Check.tell(x, "colours 2;net 3;"), 0);
        CHECK.due("fault is gone", x.fault(), -1);
    }

    private static void faulty(String text, int which, int place) {
        LampHall x = new LampHall();
        CHECK.due("hall of " + text, Check.tell(x, text), which);
        CHECK.due("fault of " + text, x.fault(), which == 0 ? -1 : place);
    }

    private static void faultsOfHeads() {
        faulty("colour 2;", 1, 0);
        faulty("coloursx 2;", 1, 0);
        faulty("Colours 2;", 1, 0);
        faulty("colours ;", 1, 8);
        faulty("colours two;", 1, 8);
        for (int q : new int[] {0, 1, 4, 6, 999}) {
            faulty("colours " + q + ";net 1;", 2, 8);
        }
        faulty("colours 0002;net 1;", 2, 8);
        faulty("colours 002;net 001;", 0, 0);
        faulty("colours 2 net 1;", 1, 10);
        faulty("colours 2;nets 1;", 1, 10);
        faulty("colours 2;2;", 1, 10);
        faulty("colours 2;12345;", 1, 10);
        faulty("colours 2;net 36;", 0, 0);
        faulty("colours 2;net 37;", 2, 14);
        faulty("colours 2;net 0;", 2, 14);
        faulty("colours 2;net 1000;", 2, 14);
        faulty("colours 2;net net;", 1, 14);
        faulty("colours 2;net 3 ring;", 1, 16);
        faulty("colours 2;board 0 1;", 2, 16);
        faulty("colours 2;board 1 0;", 2, 18);
        faulty("colours 2;board 6 7;", 2, 18);
        faulty("colours 2;board 6 6;", 0, 0);
        faulty("colours 2;board 33;", 2, 16);
        faulty("colours 2;board 3;", 1, 17);
        faulty("colours 2;board 3 3 3;", 1, 20);
        faulty("colours 2;board 3 3 rings;", 1, 20);
        faulty("colours 2;board 3 3 ring both;", 1, 25);
        faulty("colours 2;board 3 3ring;", 0, 0);
        faulty("colours2;board3 3both;", 0, 0);
        faulty("colours 2;;", 1, 10);
    }

    private static void faultsOfClauses() {
        String net = "colours 3;net 3;";
        String board = "colours 3;board 3 1;";
        for (String word : new String[] {"slant", "leap", "row", "column"}) {
            faulty(net + word + ";", 3, 16);
            faulty(net + word + " by 9;", 3, 16);
            faulty(board + word + ";", 0, 0);
        }
        faulty(board + "wire 0 1;", 3, 20);
        faulty(net + "wire 0 1;", 0, 0);
        faulty(net + "by 1;", 1, 16);
        faulty(net + "1;", 1, 16);
        faulty(net + ";", 1, 16);
        faulty(net + "net 3;", 1, 16);
        faulty(net + "self by 2;self by 1;", 0, 0);
        faulty(net + "self by 3;", 2, 24);
        faulty(net + "side by 0;", 2, 24);
        faulty(net + "self by 0001;", 2, 24);
        faulty(net + "self by ;", 1, 24);
        faulty(net + "self by by;", 1, 24);
        faulty(net + "self 1;", 1, 21);
        faulty(net + "self by 1 by 1;", 1, 26);
        faulty(net + "selfby 1;", 1, 16);
        faulty("colours 5;net 3;self by 4;", 0, 0);
        faulty("colours 5;net 3;self by 5;", 2, 24);
        faulty("colours 2;net 3;self by 1;self by 2;", 2, 34);
        faulty(net + "button 0 at 1 by 2;button 1 at 1;jam 2;jam 2;", 0, 0);
        faulty(net + "button 0 1;", 1, 25);
        faulty(net + "button 0 at by 1;", 1, 28);
        faulty(net + "button at 1;", 1, 23);
        faulty(net + "button 0 at 1 by 3;", 2, 33);
        faulty(net + "jam 0 by 1;", 1, 22);
        faulty(net + "wire 0 1 by 1;", 1, 25);
        faulty(net + "jam 1:", 1, 21);
        faulty(net + "jam\t1;", 1, 19);
        faulty(net + "jam 1;" + (char) 233, 1, 22);
        faulty(net + "jam 1;" + (char) 0, 1, 22);
        faulty(net + "selF;", 1, 16);
        faulty(net + "xelf;", 1, 16);
        faulty(net + "selx;", 1, 16);
        faulty(net + "selfz;", 1, 16);
        faulty(net + "self{;", 1, 20);
        faulty(net + "self`;", 1, 20);
        faulty(net + "jam 1/;", 1, 21);
        faulty(net + "jam -1;", 1, 20);
    }

    private static void faultsOfLamps() {
        String net = "colours 2;net 3;";
        faulty(net + "jam 3;", 4, 20);
        faulty(net + "jam 999;", 4, 20);
        faulty(net + "jam 1000;", 2, 20);
        faulty(net + "jam 002;", 0, 0);
        faulty(net + "button 3 at 0;", 4, 23);
        faulty(net + "button 0 at 3;", 4, 28);
        faulty(net + "wire 3 3;", 4, 21);
        faulty(net + "wire 1 3;", 4, 23);
        faulty(net + "wire 1 1;", 5, 23);
        faulty(net + "wire 1 001;", 5, 23);
        faulty(net + "wire 1 0001;", 2, 23);
        faulty(net + "wire 1;", 1, 22);
        faulty("colours 2;board 2 3;jam 5;", 0, 0);
        faulty("colours 2;board 2 3;jam 6;", 4, 24);
    }

    private static String many(String clause, int times) {
        return clause.repeat(times);
    }

    private static void faultsOfManyClauses() {
        String net = "colours 2;net 3;";
        int behind = 16 + 40 * 5;
        faulty(net + many("self;", 40), 0, 0);
        faulty(net + many("self;", 41), 2, behind);
        faulty(net + many("self;", 40) + "jam 9;", 2, behind);
        faulty(net + many("self;", 40) + "slant;", 2, behind);
        faulty(net + many("self;", 40) + "selfs;", 1, behind);
        faulty(net + many("self;", 40) + ";", 1, behind);
        faulty(net + many("self;", 40) + "   \n", 0, 0);
        faulty(net + many("self;", 39) + "jam 9;", 4, behind - 1);
    }

    private static void faultsOfEnds() {
        faulty("", 1, 0);
        faulty("   ", 1, 3);
        faulty("colours", 1, 7);
        faulty("colours 2", 1, 9);
        faulty("colours 2;", 1, 10);
        faulty("colours 2;net 3", 1, 15);
        faulty("colours 2;net 3;self", 1, 20);
        faulty("colours 2;net 3;self \n ", 1, 23);
        faulty("colours 2;net 3;wire 0", 1, 22);
        faulty("colours 2;board 3", 1, 17);
        faulty("colours 2;board 3 3", 1, 19);
        faulty("colours 2;net 3;self by", 1, 23);
        String blanks = " ".repeat(480);
        faulty(blanks + "colours 2;net 3;self", 1, 500);
        faulty(blanks + "colours 2;net 3;jam2", 1, 500);
        faulty(blanks + "colours 2;board 2 1;", 0, 0);
        LampHall x = new LampHall();
        CHECK.due("a longer text", Check.tell(x, "colours 2;net 3;selfside"), 1);
        CHECK.due("its place", x.fault(), 16);
        CHECK.due("a text that ends inside of it", Check.tell(x, "colours 2;net 3;self"), 1);
        CHECK.due("its place", x.fault(), 20);
    }

    private static void blanks() {
        LampHall x = CHECK.hall("\n colours\n3 ;\nboard 2\n\n2both;self by 2;\n\nbutton0at 3by 1; jam2;");
        CHECK.due("colours", x.count(1), 3);
        CHECK.due("edges", x.count(4), 2);
        CHECK.due("self", x.amount(1, 1), 2);
        CHECK.due("button", x.amount(0, 3), 1);
        CHECK.due("jam", x.jam(2, true), true);
    }

    private static void counts() {
        LampHall x = CHECK.hall("colours 5;board 4 3 ring;self;jam 7;jam 2;jam 7;");
        int[] board = {12, 5, 4, 3, 1, 0, 0, 2};
        for (int what = 0; what < 8; what++) {
            CHECK.due("count(" + what + ") of a board", x.count(what), board[what]);
        }
        LampHall y = CHECK.hall("colours 3;net 36;");
        int[] net = {36, 3, 0, 0, -1, 0, 0, 0};
        for (int what = 0; what < 8; what++) {
            CHECK.due("count(" + what + ") of a net", y.count(what), net[what]);
        }
        CHECK.due("edges of 'both'", CHECK.hall("colours 3;board 1 1 both;").count(4), 2);
        CHECK.due("edges without a word", CHECK.hall("colours 3;board 1 1;").count(4), 0);
        for (int what : new int[] {-1, 8, Integer.MIN_VALUE, Integer.MAX_VALUE}) {
            CHECK.none("count(" + what + ")", () -> x.count(what));
        }
    }

    private static String amounts(LampHall x, int button) {
        StringBuilder row = new StringBuilder();
        for (int lamp = 0; lamp < x.count(0); lamp++) {
            row.append(x.amount(button, lamp));
        }
        return row.toString();
    }

    private static void laid(String text, int button, String want) {
        CHECK.due("amounts of " + text + " by " + button, amounts(CHECK.hall(text), button), want);
    }

    private static void boards() {
        laid("colours 2;board 3 3;self;", 4, "000010000");
        laid("colours 2;board 3 3;side;", 4, "010101010");
        laid("colours 2;board 3 3;side;", 0, "010100000");
        laid("colours 2;board 3 3;slant;", 4, "101000101");
        laid("colours 2;board 3 3;slant;", 8, "000010000");
        laid("colours 2;board 3 3;leap;", 0, "000001010");
        laid("colours 2;board 3 3;leap;", 4, "000000000");
        laid("colours 2;board 4 3;row;", 5, "000011110000");
        laid("colours 2;board 4 3;column;", 5, "010001000100");
        laid("colours 3;board 2 2;row;column by 2;", 0, "0120");
        laid("colours 5;board 5 5;leap by 3;", 12, "0303030003000003000303030");
        laid("colours 2;board 1 1;side;slant;leap;", 0, "0");
    }

    private static void rings() {
        laid("colours 5;board 3 2 ring;side;", 0, "011100");
        laid("colours 5;board 3 2 both;side;", 0, "011200");
        laid("colours 5;board 2 2 ring;side;", 0, "0210");
        laid("colours 2;board 2 2 both;side;", 0, "0000");
        laid("colours 3;board 2 2 both;slant;", 0, "0001");
        laid("colours 3;board 1 1 both;side;", 0, "1");
        laid("colours 5;board 1 3 ring;side;", 1, "121");
        laid("colours 5;board 1 1 both;leap;", 0, "3");
        laid("colours 5;board 1 3 ring;leap;", 0, "022");
        laid("colours 5;board 2 1 both;leap;", 0, "44");
        laid("colours 5;board 3 3 both;leap;", 4, "202000202");
        laid("colours 3;board 3 1 both;row;", 1, "111");
        laid("colours 2;board 4 1 ring;side;", 0, "0101");
        laid("colours 2;board 1 4 ring;side;", 0, "0100");
        laid("colours 2;board 1 4 both;side;", 0, "0101");
    }

    private static void shapesTogether() {
        laid("colours 5;board 2 1;self by 3;self by 4;side by 2;side by 2;", 0, "24");
        laid("colours 3;board 2 1;button 1 at 0;button 1 at 0;self;", 1, "21");
        laid("colours 3;board 2 1;button 1 at 0 by 2;button 1 at 0;", 1, "00");
        laid("colours 3;board 2 1;button 1 at 0 by 2;", 0, "00");
        laid("colours 3;board 2 1;jam 1;self by 2;", 1, "02");
    }

    private static void nets() {
        laid("colours 5;net 3;side;wire 0 1;wire 1 2;", 1, "101");
        laid("colours 5;net 3;wire 0 1;side by 2;wire 1 2;", 1, "202");
        laid("colours 5;net 3;wire 0 1;side by 2;wire 1 0;side;", 1, "100");
        laid("colours 5;net 3;wire 0 1;self by 3;", 1, "030");
        laid("colours 2;net 3;wire 0 1;wire 0 1;side;", 0, "000");
        laid("colours 3;net 2;self;side;wire 0 1;button 0 at 1;", 0, "12");
        laid("colours 3;net 2;self;side;wire 0 1;button 0 at 1;", 1, "11");
        CHECK.due("the last lamp", CHECK.hall("colours 2;net 36;side;wire 35 34;").amount(34, 35), 1);
    }

    private static void amountsThatThereArent() {
        LampHall x = CHECK.hall("colours 2;net 3;self;");
        for (int other : new int[] {-1, 3, 36, Integer.MIN_VALUE, Integer.MAX_VALUE}) {
            CHECK.none("amount(" + other + ", 0)", () -> x.amount(other, 0));
            CHECK.none("amount(0, " + other + ")", () -> x.amount(0, other));
        }
    }
}

import java.nio.charset.StandardCharsets;

/** Each sentence of promises 1 to 6, and of the terms they stand on, that names a boundary case has a test of its own. */
public final class EdgeTextTest {
    private static final Check CHECK = new Check("EdgeTextTest");
    private static final int[] NO_LAMP_OF_THREE = {-1, 3, 35, 36, Integer.MIN_VALUE, Integer.MAX_VALUE};
    private static final String NET = "colours 2;net 3;";
    private static final String BOARD = "colours 3;board 3 2;";

    public static void main(String[] args) {
        words();
        shapes();
        faults();
        promises();
        CHECK.end();
    }

    private static void words() {
        CHECK.sentence(0, "An object is used for at most 512 calls after it has been made", EdgeTextTest::calls512);
        CHECK.sentence(0, "LAMPS 0 to n - 1 (at most 36)", EdgeTextTest::lampsAtMost36);
        CHECK.sentence(0, "each with the BUTTON of its number", EdgeTextTest::buttonOfEachLamp);
        CHECK.sentence(0, "COLOURS 0 to q - 1 (q 2, 3 or 5)", EdgeTextTest::coloursBelowQ);
        CHECK.sentence(0, "A BUTTON steps each LAMP by an AMOUNT (0 to q - 1); all is MOD q.", EdgeTextTest::modQ);
        CHECK.sentence(0, "A TEXT of at most 500 bytes tells a HALL", EdgeTextTest::text500);
        CHECK.sentence(0, "at first of no LAMPS, q 2", EdgeTextTest::atFirst);
        CHECK.sentence(0, "words (a .. z, the longest row)", EdgeTextTest::longestRow);
        CHECK.sentence(0, "NUMBERS (1 to 3 digits)", EdgeTextTest::digits);
        CHECK.sentence(0, "the sign ;", EdgeTextTest::sign);
        CHECK.sentence(0, "blanks (32, 10) between them, which count for nothing", EdgeTextTest::blanks);
        CHECK.sentence(0, "[ ] perhaps, * any number of times, | one of some", EdgeTextTest::perhaps);
        CHECK.sentence(0, "HALL: 'colours' NUMBER ';' ('board' NUMBER NUMBER ['ring' | 'both'] | 'net' NUMBER) ';' CLAUSE*.",
            EdgeTextTest::halls);
        CHECK.sentence(0, "CLAUSE: (('self' | 'side' | 'slant' | 'leap' | 'row' | 'column') ['by' NUMBER] | 'wire' LAMP LAMP |"
            + " 'button' LAMP 'at' LAMP ['by' NUMBER] | 'jam' LAMP) ';'.", EdgeTextTest::clauses);
        CHECK.sentence(0, "LAMP: NUMBER.", EdgeTextTest::lampIsANumber);
        CHECK.sentence(0, "The constants: `NONE = -1`: There is none.", EdgeTextTest::none);
    }

    private static void shapes() {
        CHECK.sentence(0, "A BOARD has w columns, h rows (1 to 6 each)", EdgeTextTest::sides1To6);
        CHECK.sentence(0, "LAMP x + w y", EdgeTextTest::lampXWY);
        CHECK.sentence(0, "EDGES: without a word columns and rows end there", EdgeTextTest::edgesEnd);
        CHECK.sentence(0, "'ring': columns are MOD w", EdgeTextTest::ring);
        CHECK.sentence(0, "'both': rows MOD h, too", EdgeTextTest::both);
        CHECK.sentence(0, "Each of these CLAUSES adds to AMOUNTS by each BUTTON", EdgeTextTest::byEachButton);
        CHECK.sentence(0, "the NUMBER behind 'by' (1 to q - 1; 1 without)", EdgeTextTest::by1ToQ);
        CHECK.sentence(0, "'self' of its LAMP", EdgeTextTest::self);
        CHECK.sentence(0, "'side' of LAMPS one column or one row off", EdgeTextTest::side);
        CHECK.sentence(0, "'slant' of those one column and one row off", EdgeTextTest::slant);
        CHECK.sentence(0, "'leap' of those one and two off (columns and rows, either way round)", EdgeTextTest::leap);
        CHECK.sentence(0, "'row', 'column' of all in its row, column (its own, too)", EdgeTextTest::lines);
        CHECK.sentence(0, "One that is come to by two ways is added twice", EdgeTextTest::twoWays);
        CHECK.sentence(0, "a LAMP that comes upon itself so, too", EdgeTextTest::uponItself);
        CHECK.sentence(0, "Of a NET 'side' are LAMPS wired with it, by each wire", EdgeTextTest::wires);
        CHECK.sentence(0, "the others but 'self' aren't CLAUSES of a NET, 'wire' isn't one of a BOARD", EdgeTextTest::kinds);
        CHECK.sentence(0, "'button' adds to one AMOUNT, of a BUTTON (the first) at a LAMP", EdgeTextTest::oneAmount);
        CHECK.sentence(0, "'jam': that BUTTON is JAMMED (can't be pressed)", EdgeTextTest::jam);
        CHECK.sentence(0, "CLAUSES count in any order ('wire' ahead of or behind 'side')", EdgeTextTest::anyOrder);
    }

    private static void faults() {
        CHECK.sentence(0, "FAULTS, the first along the text", EdgeTextTest::firstFault);
        CHECK.sentence(0, "at a TOKEN's first byte", EdgeTextTest::firstByte);
        CHECK.sentence(0, "of one TOKEN the least", EdgeTextTest::leastFault);
        CHECK.sentence(0, "1 a TOKEN that can't stand there, or is none", EdgeTextTest::cantStand);
        CHECK.sentence(0, "(the text's length where it ends too soon)", EdgeTextTest::endsTooSoon);
        CHECK.sentence(0, "2 one that can, but is too much", EdgeTextTest::tooMuch);
        CHECK.sentence(0, "a NUMBER of 4 digits or more", EdgeTextTest::fourDigits);
        CHECK.sentence(0, "q not as told", EdgeTextTest::qNotAsTold);
        CHECK.sentence(0, "w, h not 1 to 6", EdgeTextTest::sidesNot1To6);
        CHECK.sentence(0, "of a NET n not 1 to 36", EdgeTextTest::netNot1To36);
        CHECK.sentence(0, "behind 'by' not 1 to q - 1", EdgeTextTest::byNot1ToQ);
        CHECK.sentence(0, "the first TOKEN of the 41st CLAUSE", EdgeTextTest::clause41);
        CHECK.sentence(0, "3 a word that begins a CLAUSE, but of the other kind of HALL", EdgeTextTest::otherKind);
        CHECK.sentence(0, "4 a LAMP that there isn't", EdgeTextTest::noSuchLamp);
        CHECK.sentence(0, "5 of 'wire' a second LAMP that is the first", EdgeTextTest::sameLamp);
    }

    private static void promises() {
        CHECK.sentence(1, "No LAMPS.", EdgeTextTest::noLamps);
        CHECK.sentence(2, "Twenty bytes come behind the tape, of each number the highest first", EdgeTextTest::highestFirst);
        CHECK.sentence(2, "how many it has", EdgeTextTest::howMany);
        CHECK.sentence(2, "NONE, and none come, if it would have more than 500.", EdgeTextTest::fullTape);
        CHECK.sentence(3, "The tape's first n bytes", EdgeTextTest::firstBytes);
        CHECK.sentence(3, "(it is empty then)", EdgeTextTest::emptyThen);
        CHECK.sentence(3, "0, or the FAULT (all stays)", EdgeTextTest::allStays);
        CHECK.sentence(3, "STATE, WISH are 0, presses, SLOTS and what is kept are gone.", EdgeTextTest::allGone);
        CHECK.sentence(3, "IllegalArgumentException: the tape has not so many", EdgeTextTest::tapeHasNotSoMany);
        CHECK.sentence(3, "n below 0 (nothing changes)", EdgeTextTest::belowZero);
        CHECK.sentence(4, "The place of the latest hall()'s FAULT; NONE without.", EdgeTextTest::latestFault);
        CHECK.sentence(5, "0 LAMPS, 1 COLOURS, 2 columns, 3 rows (0 of a NET)", EdgeTextTest::countsOfSides);
        CHECK.sentence(5, "4 EDGES (0, 1 'ring', 2 'both'; NONE of a NET)", EdgeTextTest::countOfEdges);
        CHECK.sentence(5, "5 presses that can be taken back", EdgeTextTest::countOfPresses);
        CHECK.sentence(5, "6 bytes of the tape", EdgeTextTest::countOfBytes);
        CHECK.sentence(5, "7 JAMMED BUTTONS", EdgeTextTest::countOfJams);
        CHECK.sentence(5, "NoSuchElementException: another what.", EdgeTextTest::countOfAnother);
        CHECK.sentence(6, "AMOUNT by which a BUTTON steps a LAMP.", EdgeTextTest::amountOfLast);
        CHECK.sentence(6, "NoSuchElementException: no such BUTTON, LAMP", EdgeTextTest::noSuchAmount);
        CHECK.sentence(6, "(as everywhere)", EdgeTextTest::asEverywhere);
    }

    private static void faulty(String text, int which, int place) {
        LampHall x = new LampHall();
        CHECK.due("hall of " + text, Check.tell(x, text), which);
        CHECK.due("fault of " + text, x.fault(), place);
    }

    private static void right(String text) {
        faulty(text, 0, -1);
    }

    /** Amounts by a button of a hall that a text tells, lamp by lamp. */
    private static void laid(String text, int button, String want) {
        CHECK.due("amounts by " + button + " of " + text, Check.amounts(CHECK.hall(text), button), want);
    }

    private static void feed(LampHall x, byte[] bytes) {
        for (int at = 0; at < bytes.length; at += 20) {
            x.feed(Check.four(bytes, at), Check.four(bytes, at + 4), Check.four(bytes, at + 8), Check.four(bytes, at + 12),
                Check.four(bytes, at + 16));
        }
    }

    private static void feed(LampHall x, String text) {
        feed(x, text.getBytes(StandardCharsets.ISO_8859_1));
    }

    private static void calls512() {
        LampHall x = new LampHall();
        feed(x, "colours 5;net 1;self");
        feed(x, ";");
        CHECK.due("hall, the third call", x.hall(21), 0);
        for (int call = 4; call <= 511; call++) {
            x.press(0);
        }
        // 508 presses of five colours.
        CHECK.due("colour, the 512th call", x.colour(0, 0), 3);
    }

    private static void lampsAtMost36() {
        for (String text : new String[] {"colours 2;net 36;", "colours 2;board 6 6;"}) {
            LampHall x = CHECK.hall(text);
            CHECK.due("count(0)", x.count(0), 36);
            CHECK.due("the last lamp", x.set(35, 0, 1) && x.colour(35, 0) == 1, true);
            CHECK.none("lamp 36", () -> x.colour(36, 0));
        }
        LampHall y = CHECK.hall("colours 2;net 1;");
        CHECK.due("count(0)", y.count(0), 1);
        CHECK.due("lamp 0", y.colour(0, 0), 0);
        CHECK.none("lamp 1", () -> y.colour(1, 0));
        CHECK.none("lamp -1", () -> y.colour(-1, 0));
    }

    private static void buttonOfEachLamp() {
        LampHall x = CHECK.hall("colours 2;net 36;self;");
        CHECK.due("button 0", x.press(0), true);
        CHECK.due("button 35", x.press(35), true);
        CHECK.due("state", Check.colours(x, 0), "1" + "0".repeat(34) + "1");
        CHECK.none("button 36", () -> x.press(36));
        CHECK.none("button -1", () -> x.press(-1));
    }

    private static void coloursBelowQ() {
        for (int q : new int[] {2, 3, 5}) {
            LampHall x = CHECK.hall("colours " + q + ";net 1;");
            CHECK.due("count(1)", x.count(1), q);
            CHECK.due("the last colour", x.set(0, 0, q - 1), true);
            CHECK.due("it is told", x.colour(0, 0), q - 1);
            CHECK.due("colour 0", x.set(0, 0, 0), true);
            CHECK.due("colour q", x.set(0, 0, q), false);
            CHECK.due("colour -1", x.set(0, 0, -1), false);
        }
    }

    private static void modQ() {
        for (int q : new int[] {2, 3, 5}) {
            for (int added = 0; added <= 2 * q; added++) {
                LampHall x = CHECK.hall("colours " + q + ";net 2;" + "self;".repeat(added) + "button 0 at 1;".repeat(added));
                CHECK.due("self added " + added + " times, of " + q, x.amount(1, 1), added % q);
                CHECK.due("button added " + added + " times, of " + q, x.amount(0, 1), added % q);
            }
            LampHall y = CHECK.hall("colours " + q + ";net 1;self;");
            y.set(0, 0, q - 1);
            y.press(0);
            CHECK.due("behind the last colour comes the first, of " + q, y.colour(0, 0), 0);
            y.back();
            CHECK.due("and ahead of the first the last", y.colour(0, 0), q - 1);
        }
    }

    private static void text500() {
        String text = "colours 2;net 9;" + " ".repeat(478) + "jam 8;";
        LampHall x = new LampHall();
        feed(x, text);
        CHECK.due("bytes", x.count(6), 500);
        CHECK.due("hall(500)", x.hall(500), 0);
        CHECK.due("its last clause", x.jam(8, true), true);
        feed(x, text);
        CHECK.due("the text but its last byte", x.hall(499), 1);
        CHECK.due("its place", x.fault(), 499);
        feed(x, text + " ".repeat(20));
        CHECK.illegal("a text of more", () -> x.hall(501));
        CHECK.illegal("a text of more", () -> x.hall(520));
    }

    private static void atFirst() {
        LampHall x = new LampHall();
        CHECK.due("lamps", x.count(0), 0);
        CHECK.due("colours", x.count(1), 2);
        CHECK.due("colour 1", x.fill(0, 1), true);
        CHECK.due("colour 2", x.fill(0, 2), false);
    }

    private static void longestRow() {
        faulty(NET + "selfself;", 1, 16);
        faulty(NET + "selfa;", 1, 16);
        faulty(NET + "selfz;", 1, 16);
        faulty(NET + "aself;", 1, 16);
        faulty(NET + "zself;", 1, 16);
        faulty(NET + "sel;", 1, 16);
        faulty(NET + "jamjam 0;", 1, 16);
        faulty(NET + "self by1by;", 1, 24);
        oneLetterOff();
        // What stands next to a and z, small and great, is no letter: the word ends ahead of it.
        for (char sign : new char[] {96, 123, 'A', 'Z', 64, 91, '_', '-', (char) 225, (char) 250}) {
            faulty(NET + "self" + sign + ";", 1, 20);
            faulty(NET + sign + "self;", 1, 16);
        }
    }

    /** A word with another letter anywhere, one less or one more is another word. */
    private static void oneLetterOff() {
        String[] texts = {"colours 3;board 2 2 ring;self;side;slant;leap;row;column;button 0 at 1 by 2;jam 3;",
            "colours 3;board 2 2 both;", "colours 3;net 3;wire 0 1;"};
        for (String text : texts) {
            right(text);
            int word = 0;
            for (int at = 0; at < text.length(); at++) {
                boolean letter = Character.isLetter(text.charAt(at));
                word = letter ? word : at + 1;
                if (letter) {
                    faulty(text.substring(0, at) + 'q' + text.substring(at + 1), 1, word);
                    faulty(text.substring(0, at) + 'q' + text.substring(at), 1, word);
                    faulty(text.substring(0, at) + text.substring(at + 1), 1, word);
                    faulty(text.substring(0, at + 1) + 'q' + text.substring(at + 1), 1, word);
                }
            }
        }
    }

    private static void digits() {
        for (String number : new String[] {"9", "09", "009", "10", "19", "036"}) {
            LampHall x = CHECK.hall("colours 2;net " + number + ";");
            CHECK.due("lamps of " + number, x.count(0), Integer.parseInt(number));
        }
        faulty("colours 2;net 0009;", 2, 14);
        // What stands next to 0 and 9 is no digit: the number ends ahead of it.
        for (char sign : new char[] {47, 58, '.', '-', (char) 178}) {
            faulty("colours 2;net 9" + sign + ";", 1, 15);
            faulty("colours 2;net " + sign + "9;", 1, 14);
        }
        faulty("colours 2;net 1 2;", 1, 16);
    }

    private static void sign() {
        right(NET + "self;");
        faulty(NET + ";", 1, 16);
        faulty(NET + "self;;", 1, 21);
        for (char sign : new char[] {58, 60, ',', '.', (char) 187}) {
            faulty(NET + "self" + sign, 1, 20);
        }
    }

    private static void blanks() {
        LampHall x = CHECK.hall("\n colours \n\n3\n;\n\n board  2\n3\n both ; self  by\n2 ;button 0\nat 1by  1 ; jam\n5\n;\n \n");
        CHECK.due("edges", x.count(4), 2);
        CHECK.due("amounts", Check.amounts(x, 0), "210000");
        CHECK.due("jam", x.jam(5, true), true);
        right("colours2;board3 3both;button0at 1by1;jam8;self by1;");
        faulty("colours 2;net 3;se lf;", 1, 16);
        faulty("colours 2;board 33;", 2, 16);
        // What stands next to 10 and 32, and what elsewhere counts as blank, is none.
        for (char sign : new char[] {9, 11, 12, 13, 31, 33, 0, (char) 133, (char) 160, (char) 255}) {
            faulty(NET + sign + "self;", 1, 16);
            faulty(NET + "self" + sign + ";", 1, 20);
            faulty(NET + "self;" + sign, 1, 21);
            faulty(sign + NET, 1, 0);
        }
    }

    private static void perhaps() {
        right("colours 2;board 1 1;");
        right("colours 2;board 1 1 ring;");
        right("colours 2;board 1 1 both;");
        faulty("colours 2;board 1 1 ring both;", 1, 25);
        right(NET + "side by 1;side;");
        for (int many : new int[] {0, 1, 2, 39, 40}) {
            right(NET + "jam 0;".repeat(many));
        }
        faulty(NET + "self side;", 1, 21);
    }

    private static void lampIsANumber() {
        for (String lamp : new String[] {"2", "02", "002"}) {
            CHECK.due("jam " + lamp, CHECK.hall(NET + "jam " + lamp + ";").jam(2, true), true);
        }
        faulty(NET + "jam two;", 1, 20);
        faulty(NET + "jam;", 1, 19);
        faulty(NET + "wire 0 two;", 1, 23);
        faulty(NET + "button two at 0;", 1, 23);
        faulty(NET + "button 0 at two;", 1, 28);
    }

    private static void none() {
        CHECK.due("NONE", LampHall.NONE, -1);
        LampHall x = new LampHall();
        CHECK.due("fault", x.fault(), LampHall.NONE);
        CHECK.due("back", x.back(), LampHall.NONE);
        CHECK.due("bound with it", x.bound(0, LampHall.NONE), 0);
    }

    private static void halls() {
        right("colours 2;net 3;");
        right("colours 2;board 3 3;");
        right("colours 2;board 3 3 ring;");
        right("colours 2;board 3 3 both;");
        faulty("2;net 3;", 1, 0);
        faulty("colours;net 3;", 1, 7);
        faulty("colours 2 net 3;", 1, 10);
        faulty("colours 2;3;", 1, 10);
        faulty("colours 2;net;", 1, 13);
        faulty("colours 2;net 3 self;", 1, 16);
        faulty("colours 2;board;", 1, 15);
        faulty("colours 2;board 3;", 1, 17);
        faulty("colours 2;board 3 ring;", 1, 18);
        faulty("colours 2;board ring 3 3;", 1, 16);
        faulty("colours 2;board 3 3 self;", 1, 20);
        faulty("colours 2;board 3 3 3;", 1, 20);
        faulty("colours 2;board 3 3 ring ring;", 1, 25);
        faulty("colours 2;board 3 3 ring both;", 1, 25);
        faulty("colours 2;board 3 3 both ring;", 1, 25);
        faulty("colours 2;net 3 both;", 1, 16);
        faulty("colours 2;net 3 3;", 1, 16);
        faulty("net 3;", 1, 0);
        faulty("colours 2;colours 2;net 3;", 1, 10);
        faulty("colours 2;net 3;net 3;", 1, 16);
        faulty("colours 2;self;net 3;", 1, 10);
    }

    private static void clauses() {
        for (String word : new String[] {"self", "side", "slant", "leap", "row", "column"}) {
            int by = 20 + word.length();
            right(BOARD + word + ";");
            right(BOARD + word + " by 2;");
            faulty(BOARD + word + " 2;", 1, by + 1);
            faulty(BOARD + word + " by;", 1, by + 3);
            faulty(BOARD + word + " by 2 2;", 1, by + 6);
            faulty(BOARD + word + " by 2 by 2;", 1, by + 6);
            faulty(BOARD + word + " self;", 1, by + 1);
        }
        right(NET + "wire 0 1;");
        faulty(NET + "wire;", 1, 20);
        faulty(NET + "wire 0;", 1, 22);
        faulty(NET + "wire 0 1 2;", 1, 25);
        faulty(NET + "wire 0 1 by 1;", 1, 25);
        faulty(NET + "wire 0 at 1;", 1, 23);
        right(NET + "button 0 at 1;");
        right(NET + "button 0 at 1 by 1;");
        faulty(NET + "button;", 1, 22);
        faulty(NET + "button 0;", 1, 24);
        faulty(NET + "button 0 1;", 1, 25);
        faulty(NET + "button 0 by 1;", 1, 25);
        faulty(NET + "button 0 at;", 1, 27);
        faulty(NET + "button 0 at 1 by;", 1, 32);
        faulty(NET + "button 0 at 1 1;", 1, 30);
        right(NET + "jam 0;");
        faulty(NET + "jam;", 1, 19);
        faulty(NET + "jam 0 1;", 1, 22);
        faulty(NET + "jam 0 by 1;", 1, 22);
        faulty(NET + "at 1;", 1, 16);
        faulty(NET + "by 1;", 1, 16);
        faulty(NET + "ring;", 1, 16);
        faulty(NET + "0;", 1, 16);
    }

    private static void sides1To6() {
        for (int w = 1; w <= 6; w++) {
            for (int h = 1; h <= 6; h++) {
                LampHall x = CHECK.hall("colours 2;board " + w + " " + h + ";");
                CHECK.due("columns", x.count(2), w);
                CHECK.due("rows", x.count(3), h);
                CHECK.due("lamps", x.count(0), w * h);
            }
        }
    }

    private static void lampXWY() {
        // The last column of the first row is w - 1, the first of the second w, the last of all w h - 1.
        laid("colours 2;board 4 2;row;", 3, "11110000");
        laid("colours 2;board 4 2;row;", 4, "00001111");
        laid("colours 2;board 2 4;column;", 1, "01010101");
        laid("colours 2;board 2 4;column;", 6, "10101010");
        laid("colours 2;board 2 4;side;", 7, "00000110");
    }

    private static void edgesEnd() {
        laid("colours 2;board 3 3;side;", 0, "010100000");
        laid("colours 2;board 3 3;side;", 2, "010001000");
        laid("colours 2;board 3 3;side;", 3, "100010100");
        laid("colours 2;board 3 3;side;", 5, "001010001");
        laid("colours 2;board 3 3;side;", 6, "000100010");
        laid("colours 2;board 3 3;side;", 8, "000001010");
        laid("colours 2;board 3 3;slant;", 0, "000010000");
        laid("colours 2;board 3 3;slant;", 5, "010000010");
        laid("colours 2;board 3 3;slant;", 7, "000101000");
        laid("colours 2;board 3 3;leap;", 2, "000100010");
        laid("colours 2;board 3 3;leap;", 4, "000000000");
        laid("colours 2;board 1 1;side;slant;leap;", 0, "0");
        laid("colours 2;board 2 1;side;", 0, "01");
        laid("colours 2;board 1 2;side;", 1, "10");
    }

    private static void ring() {
        laid("colours 5;board 3 3 ring;side;", 0, "011100000");
        laid("colours 5;board 3 3 ring;side;", 5, "001110001");
        laid("colours 5;board 3 3 ring;side;", 8, "000001110");
        laid("colours 5;board 4 2 ring;slant;", 0, "00000101");
        laid("colours 5;board 4 2 ring;slant;", 7, "10100000");
        laid("colours 5;board 5 3 ring;leap;", 0, "00000" + "00110" + "01001");
        laid("colours 5;board 5 3 ring;leap;", 14, "10010" + "01100" + "00000");
    }

    private static void both() {
        laid("colours 5;board 3 3 both;side;", 0, "011100100");
        laid("colours 5;board 3 3 both;side;", 8, "001001110");
        laid("colours 5;board 3 3 both;slant;", 0, "000011011");
        laid("colours 5;board 5 5 both;leap;", 0, "00000" + "00110" + "01001" + "01001" + "00110");
        laid("colours 5;board 5 5 both;leap;", 24, "01100" + "10010" + "10010" + "01100" + "00000");
        laid("colours 5;board 1 4 both;leap;", 0, "0242");
    }

    private static void byEachButton() {
        LampHall x = CHECK.hall("colours 5;board 6 6;self;button 0 at 0 by 2;button 35 at 35 by 3;row;column by 2;self by 2;");
        int[] own = {0, 7, 14, 21, 28, 35};
        int[] want = {3, 1, 1, 1, 1, 4};
        for (int i = 0; i < own.length; i++) {
            // 1 and 2 by itself, 1 in its row, 2 in its column.
            CHECK.due("of " + own[i] + " at itself", x.amount(own[i], own[i]), want[i]);
        }
        CHECK.due("of the first in its row", x.amount(0, 5), 1);
        CHECK.due("of the last in its column", x.amount(35, 5), 2);
        String[] amounts = {"310", "131", "013"};
        for (int button = 0; button < 3; button++) {
            laid("colours 5;board 3 1;self;side;self by 2;", button, amounts[button]);
            laid("colours 5;net 3;wire 0 1;self;side;wire 1 2;self by 2;", button, amounts[button]);
        }
    }

    private static void by1ToQ() {
        for (int q : new int[] {2, 3, 5}) {
            for (int by = 1; by < q; by++) {
                LampHall x = CHECK.hall("colours " + q + ";net 2;self by " + by + ";button 0 at 1 by " + by + ";");
                CHECK.due("self by " + by, x.amount(0, 0), by);
                CHECK.due("button by " + by, x.amount(0, 1), by);
            }
            LampHall y = CHECK.hall("colours " + q + ";net 3;self;wire 0 2;side;button 0 at 1;");
            CHECK.due("1 without", Check.amounts(y, 0), "111");
        }
        for (String word : new String[] {"self", "side", "slant", "leap", "row", "column"}) {
            String one = Check.amounts(CHECK.hall("colours 5;board 3 3;" + word + ";"), 0);
            laid("colours 5;board 3 3;" + word + " by 1;", 0, one);
            laid("colours 5;board 3 3;" + word + " by 4;", 0, one.replace('1', '4'));
        }
    }

    private static void self() {
        laid("colours 2;board 3 1 ring;self;", 2, "001");
        laid("colours 2;net 3;self;", 0, "100");
        laid("colours 2;board 1 1 both;self;", 0, "1");
    }

    private static void side() {
        laid("colours 2;board 3 3;side;", 4, "010101010");
        laid("colours 2;board 4 1;side;", 1, "1010");
        laid("colours 2;board 1 4;side;", 2, "0101");
    }

    private static void slant() {
        laid("colours 2;board 3 3;slant;", 4, "101000101");
        laid("colours 2;board 6 1;slant;", 2, "000000");
        laid("colours 2;board 1 6;slant;", 2, "000000");
    }

    private static void leap() {
        laid("colours 2;board 5 5;leap;", 12, "01010" + "10001" + "00000" + "10001" + "01010");
        laid("colours 2;board 3 2;leap;", 0, "000001");
        laid("colours 2;board 2 3;leap;", 0, "000001");
        laid("colours 2;board 2 2;leap;", 0, "0000");
    }

    private static void lines() {
        laid("colours 5;board 3 2;row;", 1, "111000");
        laid("colours 5;board 3 2;column;", 4, "010010");
        laid("colours 5;board 3 2;row;column;", 4, "010121");
        laid("colours 5;board 3 2 both;row;", 1, "111000");
        laid("colours 5;board 3 2 both;column;", 4, "010010");
        laid("colours 5;board 1 1;row;column;", 0, "2");
    }

    private static void twoWays() {
        laid("colours 5;board 2 2 ring;side;", 0, "0210");
        laid("colours 5;board 2 2 both;side;", 0, "0220");
        laid("colours 5;board 2 2 ring;slant;", 0, "0002");
        laid("colours 5;board 2 2 both;slant;", 0, "0004");
        laid("colours 5;board 4 4 both;leap;", 0, "0000" + "0020" + "0202" + "0020");
        laid("colours 2;board 2 2 both;side;", 0, "0000");
        laid("colours 3;board 2 2 both;slant;", 0, "0001");
        laid("colours 5;board 2 1 ring;side by 3;", 0, "01");
    }

    private static void uponItself() {
        laid("colours 5;board 1 1 ring;side;", 0, "2");
        laid("colours 5;board 1 1 both;side;", 0, "4");
        laid("colours 5;board 1 1 ring;slant;", 0, "0");
        laid("colours 5;board 1 1 both;slant;", 0, "4");
        laid("colours 5;board 1 1 both;leap;", 0, "3");
        laid("colours 3;board 1 1 both;leap;", 0, "2");
        laid("colours 5;board 1 3 ring;side;", 1, "121");
        laid("colours 5;board 3 1 both;side;", 1, "121");
        laid("colours 5;board 2 1 both;leap;", 0, "44");
        laid("colours 5;board 1 2 both;leap;", 0, "44");
        laid("colours 5;board 1 1 both;self;side;", 0, "0");
    }

    private static void wires() {
        laid("colours 5;net 3;side;wire 0 2;", 0, "001");
        laid("colours 5;net 3;side;wire 0 2;", 2, "100");
        laid("colours 5;net 3;side;wire 0 2;", 1, "000");
        laid("colours 5;net 3;side;wire 0 2;wire 0 2;wire 2 0;", 0, "003");
        laid("colours 5;net 3;side;wire 0 2;wire 0 2;wire 2 0;", 2, "300");
        laid("colours 2;net 3;side;wire 0 2;wire 0 2;", 0, "000");
        laid("colours 5;net 3;wire 0 2;", 0, "000");
        laid("colours 5;net 3;side;", 0, "000");
        laid("colours 5;net 2;side;" + "wire 0 1;".repeat(39), 0, "04");
    }

    private static void kinds() {
        for (String word : new String[] {"slant", "leap", "row", "column"}) {
            faulty(NET + word + ";", 3, 16);
            right(BOARD + word + ";");
        }
        for (String word : new String[] {"self", "side", "button 0 at 1", "jam 0"}) {
            right(NET + word + ";");
            right(BOARD + word + ";");
        }
        faulty(BOARD + "wire 0 1;", 3, 20);
        right(NET + "wire 0 1;");
    }

    private static void oneAmount() {
        LampHall x = CHECK.hall("colours 5;net 3;button 0 at 2 by 3;button 1 at 1;");
        String[] want = {"003", "010", "000"};
        for (int button = 0; button < 3; button++) {
            CHECK.due("amounts by " + button, Check.amounts(x, button), want[button]);
        }
        laid("colours 5;board 3 1;self by 3;button 2 at 2 by 4;", 2, "002");
        laid("colours 5;net 36;button 35 at 0;", 35, "1" + "0".repeat(35));
        laid("colours 5;net 36;button 0 at 35;", 0, "0".repeat(35) + "1");
    }

    private static void jam() {
        LampHall x = CHECK.hall("colours 2;net 3;jam 2;self;jam 2;");
        CHECK.due("press of it", x.press(2), false);
        CHECK.due("press of another", x.press(1), true);
        CHECK.due("state", Check.colours(x, 0), "010");
        CHECK.due("it has its amounts", x.amount(2, 2), 1);
    }

    private static void anyOrder() {
        String[] clauses = {"wire 0 1;", "side by 2;", "wire 2 1;", "self by 3;", "button 1 at 0 by 4;", "jam 1;"};
        for (int first = 0; first < clauses.length; first++) {
            StringBuilder text = new StringBuilder("colours 5;net 3;");
            for (int i = 0; i < clauses.length; i++) {
                text.append(clauses[(first + i) % clauses.length]);
            }
            LampHall x = CHECK.hall(text.toString());
            CHECK.due("amounts by 0", Check.amounts(x, 0), "320");
            CHECK.due("amounts by 1", Check.amounts(x, 1), "132");
            CHECK.due("amounts by 2", Check.amounts(x, 2), "023");
            CHECK.due("jams", x.count(7), 1);
        }
    }

    private static void firstFault() {
        faulty("colours 4;net 99;slant", 2, 8);
        faulty("colours 2;net 99;slant", 2, 14);
        faulty("colours 2;net 3;wire 1 1;wire 9 9;slant;x", 5, 23);
        faulty("colours 2;net 3;wire 9 9;wire 1 1;slant;x", 4, 21);
        faulty("colours 2;net 3;slant;wire 1 1;x", 3, 16);
        faulty("colours 2;net 3;x;slant;wire 1 1", 1, 16);
        faulty("colours 2;board 9 9", 2, 16);
        faulty("colours 2;board 6 9", 2, 18);
        faulty("colours 2;net 3;button 3 at 3 by 3", 4, 23);
    }

    private static void firstByte() {
        faulty("   \n  colour 2;", 1, 6);
        faulty("colours   999;", 2, 10);
        faulty("colours 2;net \n\n 999;", 2, 17);
        faulty("colours 2;net 3;jam  012;", 4, 21);
        faulty("colours 2;net 3;wire 2 \n002;", 5, 24);
        faulty("colours 2;net 3;\n\ncolumn;", 3, 18);
        faulty("colours 2;net 3;self by  12345;", 2, 25);
        faulty("colours 2;net 3;self  sides;", 1, 22);
    }

    private static void leastFault() {
        // 1 of one that can't stand there ahead of 2 of a number of four digits, or of the 41st clause.
        faulty("1000 2;", 1, 0);
        faulty(NET + "self 1000;", 1, 21);
        faulty(NET + "1000;", 1, 16);
        faulty(NET + "self;".repeat(40) + "selfs;", 1, 216);
        faulty(NET + "self;".repeat(40) + "1000;", 1, 216);
        faulty(NET + "self;".repeat(40) + ";", 1, 216);
        // 2 of four digits ahead of 4 and 5, and of the 41st clause ahead of 3.
        faulty(NET + "jam 1000;", 2, 20);
        faulty(NET + "wire 1 0001;", 2, 23);
        faulty(NET + "self;".repeat(40) + "slant;", 2, 216);
        faulty("colours 2;board 3 1;" + "self;".repeat(40) + "wire 0 1;", 2, 220);
        // 4 ahead of 5.
        faulty(NET + "wire 3 3;", 4, 21);
        faulty(NET + "wire 1 3;", 4, 23);
    }

    private static void cantStand() {
        faulty("board 3 3;", 1, 0);
        faulty(";", 1, 0);
        faulty("colours colours;", 1, 8);
        faulty("colours 2 2;", 1, 10);
        faulty("colours 2;ring;", 1, 10);
        faulty("colours 2;Net 3;", 1, 10);
        faulty("colours 2;net -3;", 1, 14);
        faulty("colours 2;net 3,", 1, 15);
        faulty(NET + "wires 0 1;", 1, 16);
        faulty(NET + "jam jam;", 1, 20);
        faulty(NET + (char) 0, 1, 16);
        faulty(NET + (char) 128, 1, 16);
        faulty(NET + (char) 255, 1, 16);
    }

    private static void endsTooSoon() {
        String whole = "colours 3;net 3;wire 0 1;button 0 at 1 by 2;jam 2;";
        // Only where a clause or the head has ended may the text end.
        boolean[] mayEnd = new boolean[whole.length() + 1];
        for (int end : new int[] {16, 25, 44, 50}) {
            mayEnd[end] = true;
        }
        for (int end : new int[] {0, 7, 8, 9, 10, 13, 14, 15, 20, 21, 22, 23, 24, 31, 32, 33, 34, 36, 37, 38, 39, 41, 42, 43, 47, 48, 49}) {
            faulty(whole.substring(0, end), 1, end);
            faulty(whole.substring(0, end) + " \n ", 1, end + 3);
        }
        for (int end = 0; end <= whole.length(); end++) {
            LampHall x = new LampHall();
            CHECK.due("a text of " + end + " bytes is whole", Check.tell(x, whole.substring(0, end)) == 0, mayEnd[end]);
        }
        faulty("colours 3;board 3", 1, 17);
        faulty("colours 3;board 3 3", 1, 19);
        faulty("colours 3;board 3 3 ring", 1, 24);
        faulty("colours 3;net 3;self", 1, 20);
        faulty("colours 3;net 3;self by", 1, 23);
        faulty(" ".repeat(480) + "colours 3;net 3;self", 1, 500);
        faulty(" ".repeat(500), 1, 500);
        // Bytes of the tape behind the text's end don't belong to it.
        LampHall y = new LampHall();
        feed(y, "colours 3;net 3;self;");
        CHECK.due("one byte less", y.hall(20), 1);
        CHECK.due("its place", y.fault(), 20);
    }

    private static void tooMuch() {
        faulty("colours 4;net 3;", 2, 8);
        faulty("colours 2;net 37;", 2, 14);
        faulty("colours 2;board 7 1;", 2, 16);
        faulty("colours 2;board 1 7;", 2, 18);
        faulty(NET + "self by 2;", 2, 24);
        faulty(NET + "jam 1234;", 2, 20);
        faulty(NET + "self;".repeat(41), 2, 216);
        // What can't stand there is 1 instead.
        faulty("colours 2;37;", 1, 10);
        faulty(NET + "self 2;", 1, 21);
        faulty(NET + "self;".repeat(40) + "2;", 1, 216);
    }

    private static void fourDigits() {
        faulty("colours 0002;", 2, 8);
        faulty("colours 10000000000000000002;", 2, 8);
        faulty("colours 2;net 0001;", 2, 14);
        faulty("colours 2;board 0001 1;", 2, 16);
        faulty("colours 2;board 1 0001;", 2, 18);
        faulty(NET + "self by 0001;", 2, 24);
        faulty(NET + "button 0 at 1 by 0001;", 2, 33);
        faulty(NET + "button 0000 at 1;", 2, 23);
        faulty(NET + "button 0 at 0000;", 2, 28);
        faulty(NET + "wire 0000 1;", 2, 21);
        faulty(NET + "wire 0 4294967297;", 2, 23);
        faulty(NET + "jam 0000;", 2, 20);
        right("colours 002;net 003;self by 001;wire 000 001;jam 002;");
    }

    private static void qNotAsTold() {
        for (int q = 0; q <= 12; q++) {
            boolean told = q == 2 || q == 3 || q == 5;
            faulty("colours " + q + ";net 1;", told ? 0 : 2, told ? -1 : 8);
        }
        faulty("colours 999;net 1;", 2, 8);
        faulty("colours 000;net 1;", 2, 8);
    }

    private static void sidesNot1To6() {
        for (int side : new int[] {0, 7, 10, 36, 999}) {
            faulty("colours 2;board " + side + " 1;", 2, 16);
            faulty("colours 2;board 1 " + side + ";", 2, 18);
        }
        right("colours 2;board 1 6;");
        right("colours 2;board 6 1;");
    }

    private static void netNot1To36() {
        for (int n : new int[] {0, 37, 100, 999}) {
            faulty("colours 2;net " + n + ";", 2, 14);
        }
        right("colours 2;net 1;");
        right("colours 2;net 36;");
    }

    private static void byNot1ToQ() {
        for (int q : new int[] {2, 3, 5}) {
            for (int by : new int[] {0, q, q + 1, 999}) {
                faulty("colours " + q + ";net 2;self by " + by + ";", 2, 24);
                faulty("colours " + q + ";net 2;side by " + by + ";", 2, 24);
                faulty("colours " + q + ";net 2;button 0 at 1 by " + by + ";", 2, 33);
                faulty("colours " + q + ";board 2 1;column by " + by + ";", 2, 30);
            }
            right("colours " + q + ";net 2;self by 1;self by " + (q - 1) + ";");
        }
    }

    private static void clause41() {
        right(NET + "self;".repeat(40));
        right(NET + "self;".repeat(40) + " \n");
        faulty(NET + "self;".repeat(41), 2, 216);
        faulty(NET + "self;".repeat(40) + " \n self", 2, 219);
        faulty(NET + "self;".repeat(40) + "jam 9;", 2, 216);
        faulty(NET + "self;".repeat(40) + "jam", 2, 216);
        faulty(NET + "jam 0;".repeat(39) + "jam 3;", 4, 254);
        faulty(NET + "jam 0;".repeat(40) + "wire 0 1;", 2, 256);
        laid("colours 5;net 1;" + "self;".repeat(39) + "self by 2;", 0, "1");
    }

    private static void otherKind() {
        for (String word : new String[] {"slant", "leap", "row", "column"}) {
            faulty(NET + word, 3, 16);
            faulty(NET + "self;" + word + " by 9;", 3, 21);
        }
        faulty(BOARD + "wire 9 9;", 3, 20);
        faulty(BOARD + "self;wire", 3, 25);
    }

    private static void noSuchLamp() {
        for (String lamp : new String[] {"3", "4", "36", "999", "003"}) {
            faulty(NET + "jam " + lamp + ";", 4, 20);
            faulty(NET + "wire " + lamp + " 0;", 4, 21);
            faulty(NET + "wire 0 " + lamp + ";", 4, 23);
            faulty(NET + "button " + lamp + " at 0;", 4, 23);
            faulty(NET + "button 0 at " + lamp + ";", 4, 28);
        }
        right(NET + "jam 2;wire 2 0;wire 0 2;button 2 at 0;button 0 at 2;");
        right(BOARD + "jam 5;button 5 at 5;");
        faulty(BOARD + "jam 6;", 4, 24);
        right("colours 2;net 36;jam 35;");
        faulty("colours 2;net 36;jam 36;", 4, 21);
        faulty("colours 2;net 1;wire 0 1;", 4, 23);
    }

    private static void sameLamp() {
        for (int lamp = 0; lamp < 3; lamp++) {
            faulty(NET + "wire " + lamp + " " + lamp + ";", 5, 23);
        }
        faulty(NET + "wire 0 000;", 5, 23);
        faulty(NET + "wire 1 1", 5, 23);
        faulty("colours 2;net 1;wire 0 0;", 5, 23);
        right(NET + "button 1 at 1;wire 1 2;wire 2 1;");
    }

    private static void noLamps() {
        LampHall x = new LampHall();
        CHECK.due("lamps", x.count(0), 0);
        CHECK.due("columns", x.count(2), 0);
        CHECK.due("rows", x.count(3), 0);
        CHECK.due("presses", x.count(5), 0);
        CHECK.due("bytes", x.count(6), 0);
        CHECK.due("jams", x.count(7), 0);
        CHECK.none("lamp 0", () -> x.colour(0, 0));
        CHECK.none("button 0", () -> x.press(0));
        CHECK.due("back", x.back(), -1);
        CHECK.due("rank", x.rank(), 0);
        CHECK.due("bound buttons", x.bound(0, -1), 0);
        CHECK.due("bound lamps", x.bound(1, -1), 0);
        CHECK.due("why", x.why(), -1);
        CHECK.due("apply", x.apply(), -1);
        CHECK.due("take", x.take(0, 0), false);
        CHECK.due("lit", x.lit(2), 1);
        CHECK.due("game", x.game(), -1);
        CHECK.due("round", x.round(1), 1);
    }

    private static void highestFirst() {
        LampHall x = new LampHall();
        // "colo" "urs " "3;ne" "t 2;" "self"
        x.feed(0x636f6c6f, 0x75727320, 0x333b6e65, 0x7420323b, 0x73656c66);
        // " by " "2;ja" "m 1;" and bytes that don't belong to the text.
        x.feed(0x20627920, 0x323b6a61, 0x6d20313b, -1, 0);
        CHECK.due("hall", x.hall(32), 0);
        CHECK.due("colours", x.count(1), 3);
        CHECK.due("amounts", Check.amounts(x, 1), "02");
        CHECK.due("jam", x.jam(1, true), true);
        // The lowest byte of the last number is the twentieth.
        x.feed(0x636f6c6f, 0x75727320, 0x333b6e65, 0x7420323b, 0x000000ff);
        CHECK.due("hall", x.hall(20), 1);
        CHECK.due("the first byte of four 0, 0, 0, 255", x.fault(), 16);
        x.feed(0x636f6c6f, 0x75727320, 0x333b6e65, 0x7420323b, 0x202020ff);
        CHECK.due("hall", x.hall(20), 1);
        CHECK.due("the last byte", x.fault(), 19);
    }

    private static void howMany() {
        LampHall x = new LampHall();
        for (int many = 20; many <= 500; many += 20) {
            CHECK.due("feed", x.feed(many, -many, 0, Integer.MIN_VALUE, Integer.MAX_VALUE), many);
        }
        x.hall(0);
        CHECK.due("feed of a tape that is empty again", x.feed(0, 0, 0, 0, 0), 20);
    }

    private static void fullTape() {
        LampHall x = new LampHall();
        feed(x, " ".repeat(480));
        CHECK.due("the last that fits", x.feed(0x636f6c6f, 0x75727320, 0x333b6e65, 0x7420323b, 0x20202020), 500);
        for (int i = 0; i < 3; i++) {
            CHECK.due("one more", x.feed(-1, -1, -1, -1, -1), -1);
            CHECK.due("bytes", x.count(6), 500);
        }
        CHECK.due("hall of what was there", x.hall(500), 0);
        CHECK.due("feed", x.feed(0, 0, 0, 0, 0), 20);
    }

    private static void firstBytes() {
        LampHall x = new LampHall();
        feed(x, "colours 2;net 3;jam 0;jam 1;jam 2;      ");
        CHECK.due("hall(28)", x.hall(28), 0);
        CHECK.due("jams", x.count(7), 2);
        feed(x, "colours 2;net 4;    ");
        CHECK.due("hall of all bytes", x.hall(20), 0);
        CHECK.due("lamps", x.count(0), 4);
        feed(x, "colours 2;net 5;    ");
        CHECK.due("hall of none of them", x.hall(0), 1);
        CHECK.due("its place", x.fault(), 0);
        CHECK.due("lamps", x.count(0), 4);
        CHECK.due("hall(0) of an empty tape", x.hall(0), 1);
        // Of a tape that begins with a blank none belongs to the text, or just that one.
        for (int n : new int[] {0, 1, 2}) {
            feed(x, "\n colours 2;net 5;  ");
            CHECK.due("hall(" + n + ") of blanks", x.hall(n), 1);
            CHECK.due("its place", x.fault(), n);
        }
    }

    private static void emptyThen() {
        LampHall x = new LampHall();
        feed(x, "colours 2;net 3;jam 0;");
        CHECK.due("hall", x.hall(16), 0);
        CHECK.due("bytes", x.count(6), 0);
        CHECK.illegal("hall(1)", () -> x.hall(1));
        feed(x, "colours 2;net 3;jam 9;");
        CHECK.due("hall with a fault", x.hall(22), 4);
        CHECK.due("bytes", x.count(6), 0);
        CHECK.illegal("hall(1)", () -> x.hall(1));
        x.feed(0, 0, 0, 0, 0);
        CHECK.due("hall of nothing", x.hall(0), 1);
        CHECK.due("bytes", x.count(6), 0);
        feed(x, "colours 2;net 2;    ");
        CHECK.due("the next text begins the tape", x.hall(16), 0);
        CHECK.due("lamps", x.count(0), 2);
    }

    /** A hall with something in all that a text, a state or a search leaves behind. */
    private static LampHall usedHall() {
        LampHall x = CHECK.hall("colours 3;board 2 2 ring;self;jam 3;");
        CHECK.row(x, 0, "1200");
        x.keep(0);
        x.keep(3);
        CHECK.row(x, 1, "2100");
        x.press(1);
        CHECK.due("solve", x.solve(0), 2);
        CHECK.due("nearest", x.nearest(), 0);
        return x;
    }

    private static void allStays() {
        String[] texts = {"colours 5;net 3;self;jam 0;x", "colours 5;net 37;", "colours 5;net 3;slant;", "colours 5;net 3;jam 3;",
            "colours 5;net 3;wire 1 1;", ""};
        for (int fault = 1; fault <= texts.length; fault++) {
            LampHall x = usedHall();
            CHECK.due("hall", Check.tell(x, texts[fault - 1]), fault == 6 ? 1 : fault);
            int[] counts = {4, 3, 2, 2, 1, 1, 0, 1};
            for (int what = 0; what < 8; what++) {
                CHECK.due("count(" + what + ")", x.count(what), counts[what]);
            }
            CHECK.due("amounts", Check.amounts(x, 2), "0010");
            CHECK.due("state", Check.colours(x, 0), "1000");
            CHECK.due("wish", Check.colours(x, 1), "2100");
            CHECK.due("row", Check.times(x), "1100");
            CHECK.due("nearest", Check.nearest(x), "2100");
            CHECK.due("jam", x.jam(3, true), true);
            CHECK.due("back", x.back(), 1);
            CHECK.due("a slot", x.take(3, 1), true);
            CHECK.due("what it keeps", Check.colours(x, 1), "1200");
            CHECK.due("an empty slot", x.take(1, 1), false);
        }
    }

    private static void allGone() {
        for (String text : new String[] {"colours 3;board 2 2 ring;self;jam 3;", "colours 5;net 36;"}) {
            LampHall x = usedHall();
            CHECK.due("hall", Check.tell(x, text), 0);
            CHECK.due("state", Check.colours(x, 0), "0".repeat(x.count(0)));
            CHECK.due("wish", Check.colours(x, 1), "0".repeat(x.count(0)));
            CHECK.due("presses", x.count(5), 0);
            CHECK.due("back", x.back(), -1);
            for (int slot = 0; slot < 4; slot++) {
                CHECK.due("slot " + slot, x.take(slot, 0), false);
            }
            CHECK.none("the row", () -> x.times(0));
            CHECK.due("apply", x.apply(), -1);
            CHECK.none("nearest", () -> x.near(0));
        }
        LampHall y = usedHall();
        CHECK.due("hall", Check.tell(y, "colours 2;net 4;"), 0);
        CHECK.due("jams of the former hall", y.count(7), 0);
        CHECK.due("amounts of the former hall", Check.amounts(y, 0), "0000");
        CHECK.due("edges of the former hall", y.count(4), -1);
        nothingOfEarlierHalls();
    }

    /** Whatever was told before, by a text with a fault or without, a text tells what it tells to a new object. */
    private static void nothingOfEarlierHalls() {
        String[] texts = {"colours 5;board 6 6 both;self by 2;side by 3;slant;leap by 4;row;column by 2;button 35 at 0;jam 0;jam 35;",
            "colours 3;net 36;self;side by 2;wire 0 35;wire 1 2;button 0 at 35 by 2;jam 0;jam 1;", "colours 2;net 2;",
            "colours 5;net 2;wire 0 1;", "colours 5;net 2;side;", "colours 5;board 2 1;", "colours 5;net 36;jam 36;",
            "colours 5;board 6 6 both;self;row;jam 0;x", "colours 2;net 36;", "colours 3;board 1 2 ring;", "colours 5;board 6 6;side;"};
        for (String first : texts) {
            for (String second : texts) {
                for (String third : texts) {
                    LampHall x = new LampHall();
                    Check.tell(x, first);
                    Check.tell(x, second);
                    LampHall fresh = new LampHall();
                    if (Check.tell(fresh, third) == 0) {
                        Check.tell(x, third);
                        CHECK.due(third + " behind " + first + " and " + second, told(x), told(fresh));
                    }
                }
            }
        }
    }

    /** All that a text has told. */
    private static String told(LampHall x) {
        StringBuilder all = new StringBuilder();
        for (int what = 0; what < 8; what++) {
            all.append(x.count(what)).append(' ');
        }
        for (int button = 0; button < x.count(0); button++) {
            all.append(Check.amounts(x, button)).append(' ');
            boolean was = x.jam(button, false);
            x.jam(button, was);
            all.append(was).append(' ');
        }
        return all.append(x.rank()).append(' ').append(x.bound(1, -1)).toString();
    }

    private static void refused(LampHall x, int n, int bytes) {
        CHECK.illegal("hall(" + n + ")", () -> x.hall(n));
        CHECK.due("the tape", x.count(6), bytes);
        CHECK.due("the fault", x.fault(), 14);
        CHECK.due("lamps", x.count(0), 4);
        CHECK.due("state", Check.colours(x, 0), "1000");
        CHECK.due("row", Check.times(x), "1100");
        CHECK.due("presses", x.count(5), 1);
    }

    private static LampHall usedHallWithFault() {
        LampHall x = usedHall();
        CHECK.due("hall", Check.tell(x, "colours 2;net 99;"), 2);
        return x;
    }

    private static void tapeHasNotSoMany() {
        LampHall x = usedHallWithFault();
        refused(x, 1, 0);
        refused(x, Integer.MAX_VALUE, 0);
        feed(x, "colours 2;net 3;    ");
        for (int n : new int[] {21, 500, 501, Integer.MAX_VALUE}) {
            refused(x, n, 20);
        }
        CHECK.due("hall of as many as there are", x.hall(20), 0);
        CHECK.illegal("hall of a new object", () -> new LampHall().hall(1));
    }

    private static void belowZero() {
        LampHall x = usedHallWithFault();
        refused(x, -1, 0);
        feed(x, "colours 2;net 3;    ");
        for (int n : new int[] {-1, -20, Integer.MIN_VALUE}) {
            refused(x, n, 20);
        }
        CHECK.due("the tape is as it was", x.hall(16), 0);
    }

    private static void latestFault() {
        LampHall x = new LampHall();
        CHECK.due("fault at first", x.fault(), -1);
        CHECK.due("hall", Check.tell(x, "colours 2;net 3;"), 0);
        CHECK.due("fault without", x.fault(), -1);
        CHECK.due("hall", Check.tell(x, "colours 2;net 37;"), 2);
        CHECK.due("its place", x.fault(), 14);
        CHECK.due("hall", Check.tell(x, "colours 2;net 3;jam 3;"), 4);
        CHECK.due("its place", x.fault(), 20);
        CHECK.illegal("hall(1)", () -> x.hall(1));
        CHECK.due("it is the latest still", x.fault(), 20);
        CHECK.due("hall", Check.tell(x, "colours 2;net 3;"), 0);
        CHECK.due("without again", x.fault(), -1);
        CHECK.due("hall", Check.tell(x, "x"), 1);
        CHECK.due("a fault at the first byte", x.fault(), 0);
    }

    private static void countsOfSides() {
        LampHall x = CHECK.hall("colours 5;board 6 1;");
        CHECK.due("board", "" + x.count(0) + x.count(1) + x.count(2) + x.count(3), "6561");
        LampHall y = CHECK.hall("colours 3;board 2 4;");
        CHECK.due("board", "" + y.count(0) + y.count(1) + y.count(2) + y.count(3), "8324");
        CHECK.due("net", Check.tell(y, "colours 2;net 8;"), 0);
        CHECK.due("net behind a board", "" + y.count(0) + y.count(1) + y.count(2) + y.count(3), "8200");
    }

    private static void countOfEdges() {
        LampHall x = new LampHall();
        String[] texts = {"board 2 2", "board 2 2 ring", "board 2 2 both", "net 4", "board 2 2"};
        int[] edges = {0, 1, 2, -1, 0};
        for (int i = 0; i < texts.length; i++) {
            CHECK.due("hall", Check.tell(x, "colours 2;" + texts[i] + ";"), 0);
            CHECK.due("edges of " + texts[i], x.count(4), edges[i]);
        }
    }

    private static void countOfPresses() {
        LampHall x = CHECK.hall("colours 2;net 2;jam 1;");
        for (int many = 1; many <= 102; many++) {
            x.press(0);
            CHECK.due("behind " + many + " presses", x.count(5), Math.min(many, 100));
        }
        x.press(1);
        CHECK.due("a jammed one doesn't count", x.count(5), 100);
        for (int many = 99; many >= 0; many--) {
            x.back();
            CHECK.due("presses left", x.count(5), many);
        }
        x.back();
        CHECK.due("none are left", x.count(5), 0);
    }

    private static void countOfBytes() {
        LampHall x = new LampHall();
        CHECK.due("at first", x.count(6), 0);
        for (int many = 20; many <= 520; many += 20) {
            x.feed(0, 0, 0, 0, 0);
            CHECK.due("bytes", x.count(6), Math.min(many, 500));
        }
        x.hall(20);
        CHECK.due("behind hall", x.count(6), 0);
    }

    private static void countOfJams() {
        LampHall x = CHECK.hall("colours 2;net 3;jam 1;jam 1;");
        CHECK.due("jams", x.count(7), 1);
        x.jam(0, true);
        x.jam(2, true);
        CHECK.due("all of them", x.count(7), 3);
        x.jam(2, true);
        CHECK.due("once more", x.count(7), 3);
        for (int left = 2; left >= 0; left--) {
            x.jam(left, false);
            CHECK.due("left", x.count(7), left);
        }
        x.jam(0, false);
        CHECK.due("none", x.count(7), 0);
    }

    private static void countOfAnother() {
        for (LampHall x : new LampHall[] {new LampHall(), CHECK.hall(NET)}) {
            for (int what : new int[] {-1, 8, 9, Integer.MIN_VALUE, Integer.MAX_VALUE}) {
                CHECK.none("count(" + what + ")", () -> x.count(what));
            }
        }
    }

    private static void amountOfLast() {
        LampHall x = CHECK.hall("colours 5;net 36;button 35 at 34 by 4;button 0 at 0 by 3;");
        CHECK.due("of the last button", x.amount(35, 34), 4);
        CHECK.due("not the other way", x.amount(34, 35), 0);
        CHECK.due("of the first button", x.amount(0, 0), 3);
        CHECK.due("jam", x.jam(35, true), false);
        CHECK.due("of a jammed one", x.amount(35, 34), 4);
    }

    private static void noSuchAmount() {
        LampHall x = CHECK.hall("colours 2;net 3;self;");
        CHECK.due("of the last", x.amount(2, 2), 1);
        for (int other : NO_LAMP_OF_THREE) {
            CHECK.none("amount(" + other + ", 0)", () -> x.amount(other, 0));
            CHECK.none("amount(0, " + other + ")", () -> x.amount(0, other));
            CHECK.none("amount(" + other + ", " + other + ")", () -> x.amount(other, other));
        }
        CHECK.none("amount of a new object", () -> new LampHall().amount(0, 0));
    }

    private static void asEverywhere() {
        // Something is bound, a row and a nearest one are kept: only the button or lamp is wrong.
        LampHall x = CHECK.hall("colours 2;net 3;");
        x.press(0);
        CHECK.due("solve", x.solve(0), 0);
        CHECK.due("nearest", x.nearest(), 0);
        for (int other : NO_LAMP_OF_THREE) {
            CHECK.none("colour(" + other + ", 1)", () -> x.colour(other, 1));
            CHECK.none("set(" + other + ", 0, 1)", () -> x.set(other, 0, 1));
            CHECK.none("jam(" + other + ", true)", () -> x.jam(other, true));
            CHECK.none("press(" + other + ")", () -> x.press(other));
            CHECK.none("quiet(0, " + other + ")", () -> x.quiet(0, other));
            CHECK.none("sum(0, " + other + ")", () -> x.sum(0, other));
            CHECK.none("times(" + other + ")", () -> x.times(other));
            CHECK.none("near(" + other + ")", () -> x.near(other));
            CHECK.none("twin(" + other + ")", () -> x.twin(other));
        }
        CHECK.due("nothing was changed", Check.colours(x, 0), "000");
        CHECK.due("presses", x.count(5), 1);
        CHECK.due("jams", x.count(7), 0);
        LampHall none = new LampHall();
        CHECK.none("set of no lamp", () -> none.set(0, 0, 0));
        CHECK.none("jam of no button", () -> none.jam(0, true));
        CHECK.none("twin of no button", () -> none.twin(0));
    }
}

import java.util.Random;

/** Any arguments in any state: nothing is thrown but by a throw of the class itself, as the document says. */
public final class WildTest {
    private static final int[] WILD = {-3, -2, -1, 0, 1, 2, 3, 4, 5, 6, 7, 8, 12, 13, 35, 36, 37, 63, 64, 99, 100, 101,
        500, 501, 20000, Integer.MAX_VALUE, Integer.MIN_VALUE};
    private static final String[] TEXTS = {"colours 5;board 6 6 both;self;side;slant by 2;leap by 3;",
        "colours 2;net 36;", "colours 3;net 9;self;side;wire 0 8;wire 3 4;jam 2;", "colours 2;board 1 6;row;",
        "colours 5;board 6 1 ring;column by 4;side;", "colours 2;net 1;", "colours 2;net 14;self;button 3 at 9;",
        "colours 3;board 3 3;leap;jam 0;jam 1;jam 2;jam 3;jam 4;jam 5;jam 6;jam 7;jam 8;", "colours 2;net 12;self;",
        "colours 2;board 6 6;self;side;", "colours 7;"};

    public static void main(String[] args) {
        Check check = new Check("WildTest");
        Random random = new Random(3);
        for (int run = 0; run < 150; run++) {
            LampHall x = new LampHall();
            for (int i = 0; i < 500; i++) {
                if (random.nextInt(60) == 0) {
                    String text = TEXTS[random.nextInt(TEXTS.length)];
                    expect(check, "hall", () -> Check.tell(x, text));
                }
                one(check, x, random);
            }
        }
        check.end();
    }

    private static void expect(Check check, String name, Check.Call call) {
        String thrown = "";
        try {
            call.answer();
        } catch (RuntimeException found) {
            String want = name.equals("hall") ? "IllegalArgumentException" : "NoSuchElementException";
            boolean own = found.getStackTrace()[0].getClassName().startsWith("LampHall");
            boolean as = found.getClass().getSimpleName().equals(want);
            thrown = own && as && found.getMessage() != null ? "" : found.toString();
        } catch (StackOverflowError | OutOfMemoryError found) {
            thrown = found.toString();
        }
        check.due("what " + name + " throws", thrown, "");
    }

    private static void one(Check check, LampHall x, Random random) {
        int a = random.nextBoolean() ? random.nextInt(4) : WILD[random.nextInt(WILD.length)];
        int b = random.nextBoolean() ? random.nextInt(4) : WILD[random.nextInt(WILD.length)];
        int c = WILD[random.nextInt(WILD.length)];
        switch (random.nextInt(33)) {
            case 0 -> expect(check, "feed", () -> x.feed(a, b, c, random.nextInt(), random.nextInt()));
            case 1 -> expect(check, "hall", () -> x.hall(a));
            case 2 -> expect(check, "fault", x::fault);
            case 3 -> expect(check, "count", () -> x.count(a));
            case 4 -> expect(check, "amount", () -> x.amount(a, b));
            case 5 -> expect(check, "colour", () -> x.colour(a, b));
            case 6 -> expect(check, "set", () -> x.set(a, b, c));
            case 7 -> expect(check, "fill", () -> x.fill(a, b));
            case 8 -> expect(check, "draw", () -> {
                x.draw(random.nextInt());
                return 0;
            });
            case 9 -> expect(check, "jam", () -> x.jam(a, random.nextBoolean()));
            case 10 -> expect(check, "press", () -> x.press(a));
            case 11 -> expect(check, "back", x::back);
            case 12 -> expect(check, "rank", x::rank);
            case 13 -> expect(check, "bound", () -> x.bound(a, b));
            case 14 -> expect(check, "quiet", () -> x.quiet(a, b));
            case 15 -> expect(check, "sum", () -> x.sum(a, b));
            case 16 -> expect(check, "why", x::why);
            case 17 -> expect(check, "solve", () -> x.solve(a));
            case 18 -> expect(check, "times", () -> x.times(a));
            case 19 -> expect(check, "apply", x::apply);
            case 20 -> expect(check, "needed", () -> x.needed(a));
            case 21 -> expect(check, "hard", () -> x.hard(a));
            case 22 -> expect(check, "nearest", x::nearest);
            case 23 -> expect(check, "near", () -> x.near(a));
            case 24 -> expect(check, "chase", x::chase);
            case 25 -> expect(check, "top", x::top);
            case 26 -> expect(check, "lit", () -> x.lit(a));
            case 27 -> expect(check, "game", x::game);
            case 28 -> expect(check, "pulse", () -> x.pulse(a));
            case 29 -> expect(check, "round", () -> x.round(a));
            case 30 -> expect(check, "twin", () -> x.twin(a));
            case 31 -> expect(check, "keep", () -> x.keep(a));
            default -> expect(check, "take", () -> x.take(a, b));
        }
    }
}

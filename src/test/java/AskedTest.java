import java.util.List;

/** What a call answers doesn't depend on what was asked before, only on what was changed before. */
public final class AskedTest {
    /** A call of the face; its answer as an object. */
    private interface Ask {
        Object of(LampHall x);
    }

    private static final Check CHECK = new Check("AskedTest");
    private static final String[] TEXTS = {"colours 2;board 3 3;self;side;jam 4;", "colours 3;board 2 3 ring;self;side by 2;row;",
        "colours 5;net 4;self;side by 2;wire 0 1;wire 2 3;wire 1 2;button 3 at 0;", "colours 2;board 4 2;row;column;slant;",
        "colours 5;board 3 2;self;slant;column;jam 5;", "colours 2;net 12;self;button 0 at 5;button 5 at 0;"};
    private static final List<String> NAMES = List.of("count", "rank", "bound", "quiet", "sum", "why", "solve(0)", "solve(1)",
        "solve(2)", "needed(0)", "needed(1)", "hard", "nearest", "top", "lit(0)", "lit(1)", "lit(2)", "game", "round(0)", "round(1)",
        "twin", "colour");
    private static final Ask[] ASKS = {x -> x.count(7), x -> x.rank(), AskedTest::bound, AskedTest::quiet, AskedTest::sum,
        x -> x.why(), x -> solved(x, 0), x -> solved(x, 1), x -> solved(x, 2), x -> x.needed(0), x -> x.needed(1), AskedTest::hard,
        x -> x.nearest() + Check.nearest(x), x -> x.top(), x -> x.lit(0), x -> x.lit(1), x -> x.lit(2), x -> x.game(),
        x -> x.round(0), x -> x.round(1), x -> x.twin(3), x -> Check.colours(x, 0) + Check.colours(x, 1)};
    private static final Ask[] CHANGES = {x -> 0, x -> x.set(1, 0, 0), x -> x.set(1, 1, 1), x -> x.fill(0, 1), x -> x.fill(1, 1),
        AskedTest::draw, x -> x.jam(0, true), x -> x.jam(4 % x.count(0), false), x -> x.press(1), x -> x.back(), x -> x.chase(),
        x -> x.pulse(1), x -> x.take(2, 0), x -> x.take(2, 1), x -> Check.tell(x, "colours 3;board 2 2;self;side;"),
        x -> Check.tell(x, "colours 3;net 7;slant;"), x -> applied(x)};

    public static void main(String[] args) {
        CHECK.due("every question has a name", ASKS.length, NAMES.size());
        for (String text : TEXTS) {
            for (int change = 0; change < CHANGES.length; change++) {
                for (int then = 0; then < ASKS.length; then++) {
                    askBehindAll(text, change, then);
                }
            }
        }
        CHECK.end();
    }

    /** Asked alone behind a change; then behind each other question, which came ahead of the change or behind it. */
    private static void askBehindAll(String text, int change, int then) {
        LampHall alone = begun(text);
        CHANGES[change].of(alone);
        Object want = Check.answer(() -> ASKS[then].of(alone));
        for (int first = 0; first < ASKS.length; first++) {
            int before = first;
            LampHall x = begun(text);
            Check.answer(() -> ASKS[before].of(x));
            Check.answer(() -> ASKS[then].of(x));
            CHANGES[change].of(x);
            Check.answer(() -> ASKS[before].of(x));
            String name = NAMES.get(then) + " behind " + NAMES.get(first) + " and change " + change + " of " + text;
            CHECK.due(name, Check.answer(() -> ASKS[then].of(x)), want);
        }
    }

    private static LampHall begun(String text) {
        LampHall x = CHECK.hall(text);
        x.draw(11);
        x.keep(2);
        x.draw(5);
        x.set(0, 1, 1);
        x.press(2);
        return x;
    }

    private static Object draw(LampHall x) {
        x.draw(77);
        return 0;
    }

    private static String bound(LampHall x) {
        StringBuilder row = new StringBuilder();
        for (int what = 0; what < 2; what++) {
            for (int i = 0; i < x.bound(what, -1); i++) {
                row.append(x.bound(what, i)).append(' ');
            }
        }
        return row.toString();
    }

    private static String quiet(LampHall x) {
        StringBuilder row = new StringBuilder();
        for (int i = 0; i < x.bound(0, -1); i++) {
            for (int button = 0; button < x.count(0); button++) {
                row.append(x.quiet(i, button));
            }
        }
        return row.toString();
    }

    private static String sum(LampHall x) {
        StringBuilder row = new StringBuilder();
        for (int i = 0; i < x.bound(1, -1); i++) {
            for (int lamp = 0; lamp < x.count(0); lamp++) {
                row.append(x.sum(i, lamp));
            }
        }
        return row.toString();
    }

    private static String solved(LampHall x, int kind) {
        int many = x.solve(kind);
        return many < 0 ? "" + many : many + " " + Check.times(x);
    }

    /** Of an object that may have kept a row before, or not: it is asked for anew. */
    private static Object applied(LampHall x) {
        return x.solve(0) < 0 ? 0 : x.apply();
    }

    private static String hard(LampHall x) {
        StringBuilder row = new StringBuilder();
        for (int k = -1; k < 25; k++) {
            row.append(x.hard(k)).append(' ');
        }
        return row.toString();
    }
}

import java.lang.management.ManagementFactory;
import java.nio.charset.StandardCharsets;

/** All calls of a run live in one room: rows are made with the object, and no call that answers makes anything. */
public final class RoomTest {
    /** A call of the face; its answer stays unused, since to hand it on as an object would make one. */
    private interface Use {
        void of(LampHall x, int i);
    }

    private static final String[] NAMES = {"feed", "hall", "hall with a fault", "fault", "count", "amount", "colour", "set",
        "fill", "draw", "jam", "press", "back", "rank", "bound", "quiet", "sum", "why", "solve", "times", "apply", "needed",
        "hard", "nearest", "near", "chase", "top", "lit", "game", "pulse", "round", "twin", "keep", "take"};
    private static final String[] TEXTS = {"colours 2;net 14;self;button 3 at 9;", "colours 5;board 6 6 both;self;side;leap;",
        "colours 3;board 3 3;self;side;", "colours 2;board 6 6;row;column;", "colours 2;board 4 3;self;side;",
        "colours 5;board 3 2 ring;self;side;slant;", "colours 3;net 9;self;wire 0 1;wire 1 2;side;jam 4;"};
    /** The room has 7.3 million elements, of 4 bytes or more; an object alone stays far below. */
    private static final long MOST_BYTES = 600_000;
    private static final com.sun.management.ThreadMXBean BEAN =
        (com.sun.management.ThreadMXBean) ManagementFactory.getThreadMXBean();

    public static void main(String[] args) {
        Check check = new Check("RoomTest");
        Use[] uses = uses();
        check.due("every call has a name", uses.length, NAMES.length);
        LampHall[] first = new LampHall[1];
        made(first);
        for (String text : TEXTS) {
            byte[] bytes = text.getBytes(StandardCharsets.ISO_8859_1);
            long[] most = new long[uses.length];
            callAll(uses, bytes, most, new LampHall());
            java.util.Arrays.fill(most, 0);
            long room = made(first);
            check.due("the room of an object, " + room + " bytes, is small", room > 0 && room < MOST_BYTES, true);
            callAll(uses, bytes, most, first[0]);
            for (int i = 0; i < uses.length; i++) {
                check.due("bytes made by " + NAMES[i] + " of " + text, most[i], 0L);
            }
        }
        check.end();
    }

    private static long made(LampHall[] into) {
        long before = BEAN.getCurrentThreadAllocatedBytes();
        into[0] = new LampHall();
        return BEAN.getCurrentThreadAllocatedBytes() - before;
    }

    /** Every call once as the first behind what prepares a hall, then behind all the others. */
    private static void callAll(Use[] uses, byte[] text, long[] most, LampHall x) {
        for (int first = 0; first < uses.length; first++) {
            prepare(x, text, first);
            for (int i = 0; i < uses.length; i++) {
                int which = (first + i) % uses.length;
                if (changesHall(which) && i > 0) {
                    continue;
                }
                long before = BEAN.getCurrentThreadAllocatedBytes();
                uses[which].of(x, first);
                most[which] = Math.max(most[which], BEAN.getCurrentThreadAllocatedBytes() - before);
                if (changesHall(which)) {
                    prepare(x, text, first);
                }
            }
        }
    }

    private static boolean changesHall(int which) {
        return which < 3;
    }

    private static void prepare(LampHall x, byte[] text, int seed) {
        Check.tell(x, text);
        x.draw(seed);
        x.keep(0);
        x.press(seed % x.count(0));
        x.take(0, 1);
        x.solve(0);
        x.nearest();
        for (int at = 0; at < text.length; at += 20) {
            x.feed(Check.four(text, at), Check.four(text, at + 4), Check.four(text, at + 8), Check.four(text, at + 12),
                Check.four(text, at + 16));
        }
    }

    private static Use[] uses() {
        return new Use[] {
            (x, i) -> x.feed(i, i, i, i, i), (x, i) -> x.hall(x.count(6)), (x, i) -> x.hall(3), (x, i) -> x.fault(),
            (x, i) -> x.count(i % 8), (x, i) -> x.amount(0, i % x.count(0)), (x, i) -> x.colour(i % x.count(0), i % 2),
            (x, i) -> x.set(i % x.count(0), i % 2, 1), (x, i) -> x.fill(i % 2, i % 3), (x, i) -> x.draw(i),
            (x, i) -> x.jam(i % x.count(0), i % 4 == 0), (x, i) -> x.press(i % x.count(0)), (x, i) -> x.back(),
            (x, i) -> x.rank(), (x, i) -> x.bound(i % 2, -1), RoomTest::quiet, RoomTest::sum, (x, i) -> x.why(),
            (x, i) -> x.solve(i % 3), RoomTest::times, (x, i) -> x.apply(), (x, i) -> x.needed(i % 2),
            (x, i) -> x.hard(i - 1), (x, i) -> x.nearest(), RoomTest::near, (x, i) -> x.chase(), (x, i) -> x.top(),
            (x, i) -> x.lit(i % 3), (x, i) -> x.game(), (x, i) -> x.pulse(i), (x, i) -> x.round(i % 2),
            (x, i) -> x.twin(i % x.count(0)), (x, i) -> x.keep(i % 5), (x, i) -> x.take(i % 5, i % 2)};
    }

    private static void quiet(LampHall x, int i) {
        if (x.bound(0, -1) > 0) {
            x.quiet(0, i % x.count(0));
        }
    }

    private static void sum(LampHall x, int i) {
        if (x.bound(1, -1) > 0) {
            x.sum(0, i % x.count(0));
        }
    }

    // A hall can be too large for a row or a nearest one to be kept; then these calls throw.
    private static void times(LampHall x, int i) {
        if (x.solve(0) >= 0) {
            x.times(i % x.count(0));
        }
    }

    private static void near(LampHall x, int i) {
        if (x.nearest() >= 0) {
            x.near(i % x.count(0));
        }
    }
}

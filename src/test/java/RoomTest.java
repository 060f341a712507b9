import java.lang.management.ManagementFactory;

/** All calls of a run live in one room: what they make is counted, of the dearest ones 512 times. */
public final class RoomTest {
    /** Some 7.3 million elements of 4 bytes and more; far below it. */
    private static final long MOST_BYTES = 2_000_000;

    public static void main(String[] args) {
        Check check = new Check("RoomTest");
        String[] texts = {"colours 2;net 14;self;button 3 at 9;", "colours 5;board 6 6 both;self;side;leap;",
            "colours 3;board 3 3;self;side;", "colours 2;board 6 6;row;column;", "colours 2;board 4 3;self;side;"};
        for (String text : texts) {
            byte[] bytes = text.getBytes(java.nio.charset.StandardCharsets.ISO_8859_1);
            run(bytes);
            long before = made();
            run(bytes);
            long room = made() - before;
            check.due("the room of " + text + ", " + room + " bytes, is small", room < MOST_BYTES, true);
        }
        check.end();
    }

    private static long made() {
        com.sun.management.ThreadMXBean bean = (com.sun.management.ThreadMXBean) ManagementFactory.getThreadMXBean();
        return bean.getCurrentThreadAllocatedBytes();
    }

    private static void run(byte[] text) {
        LampHall x = new LampHall();
        for (int i = 0; i < 20; i++) {
            Check.tell(x, text);
            x.draw(i);
            x.keep(0);
            x.press(i % x.count(0));
            x.take(0, 1);
            for (int kind = 0; kind < 3; kind++) {
                x.solve(kind);
                x.lit(kind);
            }
            x.apply();
            x.needed(0);
            x.hard(-1);
            x.nearest();
            x.top();
            x.chase();
            x.game();
            x.round(0);
            x.pulse(100);
            x.why();
            x.back();
        }
    }
}

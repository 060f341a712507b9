import java.util.HashMap;
import java.util.Map;
import java.util.Random;

/** Halls too large for the plain model: what is answered is checked against what the answers themselves must fulfil. */
public final class LargeTest {
    private static final Check CHECK = new Check("LargeTest");
    private static final String[] TEXTS = {
        "colours 2;board 5 5;self;side;", "colours 2;board 6 6 both;self;side;", "colours 3;board 6 6;self;side;slant;",
        "colours 3;board 6 6 both;self;side;slant by 2;", "colours 5;board 6 6 ring;leap;self by 3;jam 11;jam 30;",
        "colours 5;board 6 5;row;column;self;", "colours 3;board 5 6 ring;side;", "colours 2;board 6 5;slant;self;",
        "colours 5;board 5 5;self;side;", "colours 2;net 36;self;side;wire 0 1;wire 1 2;wire 2 0;wire 35 0;jam 2;",
        "colours 3;board 6 6;self;side;jam 0;jam 35;", "colours 2;board 4 4;self;side;", "colours 2;board 6 1 ring;row;"};

    public static void main(String[] args) {
        Random random = new Random(11);
        for (String text : TEXTS) {
            LampHall x = CHECK.hall(text);
            for (int i = 0; i < 20; i++) {
                mix(x, random, i % 2 == 0);
                waysAgree(x, text);
                nearestAgrees(x, text);
                topAgrees(x, text);
            }
        }
        hardAgrees();
        CHECK.end();
    }

    /** A wish that can be reached, or any; jams come and go. */
    private static void mix(LampHall x, Random random, boolean reached) {
        int n = x.count(0);
        x.jam(random.nextInt(n), random.nextInt(3) == 0);
        x.draw(random.nextInt());
        x.keep(0);
        if (reached) {
            for (int i = 0; i < 60; i++) {
                x.press(random.nextInt(n));
            }
        } else {
            x.draw(random.nextInt());
        }
        x.keep(1);
        x.take(0, 0);
        x.take(1, 1);
        if (reached) {
            CHECK.due("why of what presses came to", x.why(), -1);
        }
    }

    private static void waysAgree(LampHall x, String text) {
        boolean leads = x.why() == -1;
        CHECK.due("needed and why of " + text, x.needed(0) != -1, leads);
        int last = -1;
        for (int kind = 0; kind < 3; kind++) {
            int many = x.solve(kind);
            CHECK.due("solve and why of " + text, many == -1 && kind < 2, !leads && kind < 2);
            if (many < 0) {
                continue;
            }
            int presses = 0;
            int buttons = 0;
            for (int button = 0; button < x.count(0); button++) {
                presses += x.times(button);
                buttons += x.times(button) == 0 ? 0 : 1;
                CHECK.due("a number of presses", x.times(button) < (kind == 2 ? 2 : x.count(1)), true);
            }
            CHECK.due("how many of " + text, many, kind == 1 ? buttons : presses);
            last = kind == 0 ? presses : last;
            CHECK.due("fewest presses are fewest", presses >= last, true);
            CHECK.due("at least what is needed", buttons >= x.needed(0), true);
            CHECK.due("apply of " + text, x.apply(), presses);
            CHECK.due("it leads", Check.colours(x, 0), Check.colours(x, 1));
            for (int i = 0; i < presses && presses <= 100; i++) {
                x.back();
            }
            x.take(0, 0);
        }
    }

    private static void nearestAgrees(LampHall x, String text) {
        int unlike = x.nearest();
        if (unlike < 0) {
            return;
        }
        CHECK.due("nearest and why of " + text, unlike == 0, x.why() == -1);
        int seen = 0;
        x.keep(2);
        x.take(1, 0);
        x.keep(3);
        x.take(0, 0);
        for (int lamp = 0; lamp < x.count(0); lamp++) {
            seen += x.near(lamp) == x.colour(lamp, 1) ? 0 : 1;
            x.set(lamp, 1, x.near(lamp));
        }
        CHECK.due("how many are unlike", seen, unlike);
        CHECK.due("nearest can be made", x.why(), -1);
        x.take(3, 1);
    }

    private static void topAgrees(LampHall x, String text) {
        int top = x.top();
        if (x.count(4) == -1) {
            CHECK.due("top of a net", top, -1);
            return;
        }
        if (top == -1) {
            return;
        }
        for (int column = 0; column < x.count(2); column++) {
            for (int i = top % x.count(1); i > 0; i--) {
                CHECK.due("a top button isn't jammed", x.press(column), true);
            }
            top /= x.count(1);
        }
        x.chase();
        CHECK.due("top and chase of " + text, Check.colours(x, 0), Check.colours(x, 1));
        x.take(0, 0);
    }

    /** Two colours as bits: differences gone through level by level in another way. */
    private static void hardAgrees() {
        String[] texts = {"colours 2;board 4 4;self;side;", "colours 2;board 6 6;row;column;",
            "colours 2;board 6 6;row;column;self;jam 3;", "colours 2;board 4 3;leap;self;"};
        for (String text : texts) {
            LampHall x = CHECK.hall(text);
            int n = x.count(0);
            Map<Long, Integer> far = new HashMap<>();
            java.util.List<Long> come = new java.util.ArrayList<>();
            far.put(0L, 0);
            come.add(0L);
            for (int at = 0; at < come.size() && come.size() <= 10000; at++) {
                for (int button = 0; button < n; button++) {
                    boolean jammed = x.jam(button, false);
                    x.jam(button, jammed);
                    long next = come.get(at);
                    for (int lamp = 0; lamp < n; lamp++) {
                        next ^= (long) x.amount(button, lamp) << lamp;
                    }
                    if (!jammed && far.putIfAbsent(next, far.get(come.get(at)) + 1) == null) {
                        come.add(next);
                    }
                }
            }
            int most = 0;
            Map<Integer, Integer> counts = new HashMap<>();
            for (int presses : far.values()) {
                counts.merge(presses, 1, Integer::sum);
                most = Math.max(most, presses);
            }
            boolean tooMany = come.size() > 10000;
            CHECK.due("the most of " + text, x.hard(-1), tooMany ? -2 : most);
            for (int k = 0; k < 20; k++) {
                CHECK.due("hard(" + k + ") of " + text, x.hard(k), tooMany ? -2 : counts.getOrDefault(k, 0));
            }
        }
    }
}

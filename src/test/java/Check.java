import java.io.IOException;
import java.nio.charset.StandardCharsets;
import java.nio.file.Files;
import java.nio.file.Path;

/** Counts what is not as due, and lays texts on a hall's tape. */
final class Check {
    /** A call that may throw. */
    interface Call {
        Object answer();
    }

    /** The document that tests quote, its blanks made one; empty if it isn't there. */
    private static final String DOCUMENT = document();

    private final String name;
    private String sentence = "";
    private int wrong = 0;
    private int seen = 0;

    Check(String name) {
        this.name = name;
    }

    void due(String call, Object got, Object want) {
        seen++;
        if (!got.equals(want)) {
            wrong++;
            System.out.println(name + ": " + sentence + call + " answered " + got + ", due is " + want);
        }
    }

    /** A test of one sentence of the document (0 stands for its terms, a number for that promise), told in its words. */
    void sentence(int promise, String words, Runnable test) {
        if (Boolean.getBoolean("quotes")) {
            System.out.println("quote " + promise + ": " + words);
        }
        sentence = "[" + promise + ": " + words + "] ";
        due("whether the document has these words", DOCUMENT.isEmpty() || section(promise).contains(words), true);
        int before = seen;
        try {
            test.run();
        } catch (RuntimeException | StackOverflowError thrown) {
            due("the test", thrown.toString(), "no exception");
        }
        due("whether the test asks anything", seen > before, true);
        sentence = "";
    }

    /** The call's answer, or the simple name of what it throws. */
    static Object answer(Call call) {
        try {
            return call.answer();
        } catch (RuntimeException thrown) {
            return thrown.getClass().getSimpleName();
        }
    }

    private static String document() {
        Path file = Path.of(System.getProperty("doc", "../shared/DOC.md"));
        try {
            return Files.exists(file) ? Files.readString(file).replaceAll("\\s+", " ") : "";
        } catch (IOException unreadable) {
            return "";
        }
    }

    /** What a promise says, or with 0 all that stands ahead of the first. */
    private static String section(int promise) {
        int from = promise == 0 ? 0 : DOCUMENT.indexOf("## Promise " + promise + ":");
        int to = DOCUMENT.indexOf("## ", DOCUMENT.indexOf("## Promise " + Math.max(1, promise) + ":") + (promise == 0 ? 0 : 3));
        return from < 0 || to < from ? "" : DOCUMENT.substring(from, to);
    }

    void none(String call, Call it) {
        due(call, answer(it), "NoSuchElementException");
    }

    void illegal(String call, Call it) {
        due(call, answer(it), "IllegalArgumentException");
    }

    /** A new hall of a text, which has no fault. */
    LampHall hall(String text) {
        LampHall x = new LampHall();
        due("hall of " + text, tell(x, text), 0);
        return x;
    }

    /** A row of digits becomes THE STATE (what 0) or THE WISH (1). */
    void row(LampHall x, int what, String digits) {
        for (int lamp = 0; lamp < digits.length(); lamp++) {
            due("set " + lamp, x.set(lamp, what, digits.charAt(lamp) - '0'), true);
        }
    }

    static int tell(LampHall x, String text) {
        return tell(x, text.getBytes(StandardCharsets.ISO_8859_1));
    }

    static int tell(LampHall x, byte[] bytes) {
        for (int at = 0; at < bytes.length; at += 20) {
            x.feed(four(bytes, at), four(bytes, at + 4), four(bytes, at + 8), four(bytes, at + 12), four(bytes, at + 16));
        }
        return x.hall(bytes.length);
    }

    static int four(byte[] bytes, int at) {
        int number = 0;
        for (int i = at; i < at + 4; i++) {
            number = number << 8 | (i < bytes.length ? bytes[i] & 255 : ' ');
        }
        return number;
    }

    static String colours(LampHall x, int what) {
        StringBuilder row = new StringBuilder();
        for (int lamp = 0; lamp < x.count(0); lamp++) {
            row.append(x.colour(lamp, what));
        }
        return row.toString();
    }

    static String amounts(LampHall x, int button) {
        StringBuilder row = new StringBuilder();
        for (int lamp = 0; lamp < x.count(0); lamp++) {
            row.append(x.amount(button, lamp));
        }
        return row.toString();
    }

    static String nearest(LampHall x) {
        StringBuilder row = new StringBuilder();
        for (int lamp = 0; lamp < x.count(0); lamp++) {
            row.append(x.near(lamp));
        }
        return row.toString();
    }

    static String times(LampHall x) {
        StringBuilder row = new StringBuilder();
        for (int button = 0; button < x.count(0); button++) {
            row.append(x.times(button));
        }
        return row.toString();
    }

    void end() {
        System.out.println(name + ": " + seen + " answers, " + wrong + " wrong");
        if (wrong > 0 || seen == 0) {
            System.exit(1);
        }
    }
}

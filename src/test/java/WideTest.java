import java.nio.charset.StandardCharsets;
import java.util.List;

/** Halls of up to 36 lamps beside a model: those at the limits of what is gone through, then random runs of calls. */
public final class WideTest {
    private static final Check CHECK = new Check("WideTest");

    /** As many differences, as many rows that lead, as many lit states as may be gone through, each with one step more. */
    private static final List<String> AT_LIMITS = List.of(
        "colours 2;board 6 6;row;column;button 35 at 0;button 34 at 1;button 33 at 2;",
        "colours 2;board 6 6;row;column;button 35 at 0;button 34 at 1;button 33 at 2;button 32 at 3;",
        "colours 3;board 6 6;row;button 35 at 0;button 34 at 1;",
        "colours 3;board 6 6;row;button 35 at 0;button 34 at 1;button 33 at 2;",
        "colours 5;net 36;" + buttons(36, 5), "colours 5;net 36;" + buttons(36, 6),
        "colours 2;board 6 4;row;column;jam 0;jam 9;", "colours 2;board 6 4;row;column;jam 0;",
        "colours 3;board 4 4;row;column;", "colours 3;board 6 3;row;column;jam 0;",
        "colours 5;board 4 3;row by 2;column;", "colours 5;board 5 3;row by 2;column;jam 7;",
        "colours 2;net 14;self;side;wire 0 1;wire 1 2;wire 12 13;wire 3 13;button 13 at 0;button 0 at 13;", "colours 2;net 15;self;",
        "colours 3;board 3 3 ring;self;side;", "colours 3;board 5 2;self;",
        "colours 5;board 3 2;self;side by 2;", "colours 5;net 7;self;",
        "colours 2;board 6 2;self;side;slant;", "colours 2;net 13;self;");

    public static void main(String[] args) {
        for (String text : AT_LIMITS) {
            atLimits(text);
        }
        RandomTest.runAll(CHECK, args, 100, true);
    }

    /** Clauses of as many buttons, of which only so many do different things. */
    private static String buttons(int many, int different) {
        StringBuilder text = new StringBuilder();
        for (int button = 0; button < many; button++) {
            text.append("button").append(button).append("at").append(button % different).append(';');
        }
        return text.toString();
    }

    private static void atLimits(String text) {
        LampHall x = new LampHall();
        Model model = new WideModel();
        byte[] bytes = text.getBytes(StandardCharsets.ISO_8859_1);
        for (int at = 0; at < bytes.length; at += 20) {
            model.feed(Check.four(bytes, at), Check.four(bytes, at + 4), Check.four(bytes, at + 8), Check.four(bytes, at + 12),
                Check.four(bytes, at + 16));
        }
        CHECK.due("hall of " + text, Check.tell(x, bytes), model.hall(bytes.length));
        CHECK.due("rank of " + text, x.rank(), model.rank());
        hardOf(x, model, text);
        for (int seed = 0; seed < 4; seed++) {
            x.draw(seed);
            model.draw(seed);
            x.keep(0);
            model.keep(0);
            x.take(0, 1);
            model.take(0, 1);
            for (int i = 0; i < model.n && seed % 2 == 0; i += 1 + seed) {
                x.press(i);
                model.press(i);
            }
            if (seed % 2 != 0) {
                x.draw(seed + 100);
                model.draw(seed + 100);
            }
            askAll(x, model, " of " + text + " drawn by " + seed);
        }
    }

    private static void hardOf(LampHall x, Model model, String text) {
        int most = model.hard(-1);
        CHECK.due("hard(-1) of " + text, x.hard(-1), most);
        int[] many = new int[30];
        if (most >= 0) {
            model.fewestFrom(model.rowOf(0)).values().forEach(presses -> many[presses]++);
        }
        for (int k = 0; k < many.length; k++) {
            CHECK.due("hard(" + k + ") of " + text, x.hard(k), most < 0 ? -2 : many[k]);
        }
    }

    private static void askAll(LampHall x, Model model, String behind) {
        for (int kind = 0; kind < 3; kind++) {
            int one = kind;
            CHECK.due("solve(" + kind + ")" + behind, x.solve(one), model.solve(one));
            CHECK.due("its row" + behind, Check.answer(() -> Check.times(x)), digits(model.row));
            CHECK.due("lit(" + kind + ")" + behind, x.lit(one), model.lit(one));
        }
        CHECK.due("nearest" + behind, x.nearest(), model.nearest());
        CHECK.due("what is nearest" + behind, Check.answer(() -> Check.nearest(x)), digits(model.nearest));
        CHECK.due("needed" + behind, x.needed(0) + " " + x.needed(1), model.needed(0) + " " + model.needed(1));
        CHECK.due("top" + behind, x.top(), model.top());
        CHECK.due("game" + behind, x.game(), model.game());
        CHECK.due("round" + behind, x.round(0) + " " + x.round(1), model.round(0) + " " + model.round(1));
    }

    private static String digits(List<Integer> row) {
        StringBuilder digits = new StringBuilder();
        if (row == null) {
            return "NoSuchElementException";
        }
        row.forEach(digits::append);
        return digits.toString();
    }
}

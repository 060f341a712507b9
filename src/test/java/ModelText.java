import java.nio.charset.StandardCharsets;
import java.util.ArrayList;
import java.util.List;
import java.util.regex.Matcher;
import java.util.regex.Pattern;

/** A text read by the document's grammar; the fault is thrown up to the constructor. */
final class ModelText {
    private static final class Fault extends RuntimeException {
        private static final long serialVersionUID = 1;
        final int which;
        final int at;

        Fault(int which, int at) {
            this.which = which;
            this.at = at;
        }
    }

    int fault = 0;
    int place = -1;
    int q = 2;
    int n = 0;
    int w = 0;
    int h = 0;
    int edges = -1;
    int[][] amounts;
    boolean[] jammed;
    private final List<String> tokens = new ArrayList<>();
    private final List<Integer> places = new ArrayList<>();
    private int at = 0;
    private final List<int[]> shapes = new ArrayList<>();
    private final List<int[]> wires = new ArrayList<>();
    private static final List<String> WORDS =
        List.of("self", "side", "slant", "leap", "row", "column", "wire", "button", "jam");

    ModelText(byte[] bytes) {
        String text = new String(bytes, StandardCharsets.ISO_8859_1);
        Matcher matcher = Pattern.compile("[a-z]+|[0-9]+|[^ \n]", Pattern.DOTALL).matcher(text);
        while (matcher.find()) {
            tokens.add(matcher.group());
            places.add(matcher.start());
        }
        tokens.add("");
        places.add(bytes.length);
        try {
            head();
            for (int clause = 1; !here().isEmpty(); clause++) {
                clause(clause);
            }
            lay();
        } catch (Fault found) {
            fault = found.which;
            place = found.at;
        }
    }

    private String here() {
        return tokens.get(at);
    }

    private void fail(int which) {
        throw new Fault(which, places.get(at));
    }

    private void expect(String token) {
        if (!here().equals(token)) {
            fail(1);
        }
        at++;
    }

    private boolean perhaps(String token) {
        boolean is = here().equals(token);
        at += is ? 1 : 0;
        return is;
    }

    private int number(int otherwise, int... allowed) {
        if (!here().matches("[0-9]+")) {
            fail(1);
        }
        if (here().length() > 3) {
            fail(2);
        }
        for (int one : allowed) {
            if (Integer.parseInt(here()) == one) {
                at++;
                return one;
            }
        }
        fail(otherwise);
        return 0;
    }

    private static int[] upTo(int least, int most) {
        int[] all = new int[Math.max(0, most - least + 1)];
        for (int i = 0; i < all.length; i++) {
            all[i] = least + i;
        }
        return all;
    }

    private void head() {
        expect("colours");
        q = number(2, 2, 3, 5);
        expect(";");
        if (perhaps("net")) {
            n = number(2, upTo(1, 36));
        } else {
            expect("board");
            w = number(2, 1, 2, 3, 4, 5, 6);
            h = number(2, 1, 2, 3, 4, 5, 6);
            n = w * h;
            edges = perhaps("ring") ? 1 : perhaps("both") ? 2 : 0;
        }
        expect(";");
        amounts = new int[n][n];
        jammed = new boolean[n];
    }

    private int lamp() {
        return number(4, upTo(0, n - 1));
    }

    private int by() {
        return perhaps("by") ? number(2, upTo(1, q - 1)) : 1;
    }

    private void clause(int number) {
        int word = WORDS.indexOf(here());
        if (word < 0) {
            fail(1);
        }
        if (number == 41) {
            fail(2);
        }
        if (edges == -1 ? word >= 2 && word <= 5 : word == 6) {
            fail(3);
        }
        at++;
        if (word < 6) {
            shapes.add(new int[] {word, by()});
        } else if (word == 6) {
            int one = lamp();
            if (here().matches("[0-9]{1,3}") && Integer.parseInt(here()) == one) {
                fail(5);
            }
            wires.add(new int[] {one, lamp()});
        } else if (word == 7) {
            int button = lamp();
            expect("at");
            int lamp = lamp();
            amounts[button][lamp] += by();
        } else {
            jammed[lamp()] = true;
        }
        expect(";");
    }

    private void lay() {
        for (int[] shape : shapes) {
            for (int button = 0; button < n; button++) {
                if (edges == -1) {
                    layOnNet(shape[0], shape[1], button);
                } else {
                    layOnBoard(shape[0], shape[1], button);
                }
            }
        }
        for (int[] row : amounts) {
            for (int lamp = 0; lamp < n; lamp++) {
                row[lamp] %= q;
            }
        }
    }

    private void layOnNet(int shape, int by, int button) {
        if (shape == 0) {
            amounts[button][button] += by;
            return;
        }
        for (int[] wire : wires) {
            if (wire[0] == button) {
                amounts[button][wire[1]] += by;
            } else if (wire[1] == button) {
                amounts[button][wire[0]] += by;
            }
        }
    }

    private void layOnBoard(int shape, int by, int button) {
        int x = button % w;
        int y = button / w;
        if (shape >= 4) {
            for (int i = 0; i < (shape == 4 ? w : h); i++) {
                amounts[button][shape == 4 ? i + w * y : x + w * i] += by;
            }
            return;
        }
        for (int dx = -2; dx <= 2; dx++) {
            for (int dy = -2; dy <= 2; dy++) {
                int far = dx * dx + dy * dy;
                boolean is = far == new int[] {0, 1, 2, 5}[shape];
                int column = edges >= 1 ? (x + dx + 6 * w) % w : x + dx;
                int row = edges == 2 ? (y + dy + 6 * h) % h : y + dy;
                if (is && column >= 0 && column < w && row >= 0 && row < h) {
                    amounts[button][column + w * row] += by;
                }
            }
        }
    }
}

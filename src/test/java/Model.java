import java.util.ArrayDeque;
import java.util.ArrayList;
import java.util.Arrays;
import java.util.Deque;
import java.util.HashMap;
import java.util.HashSet;
import java.util.LinkedHashSet;
import java.util.List;
import java.util.Map;
import java.util.NoSuchElementException;
import java.util.Set;
import java.util.TreeMap;

/** The document's words by the plainest means: all rows, all states, all sums are gone through one by one. */
class Model {
    int q = 2;
    int n = 0;
    int w = 0;
    int h = 0;
    int edges = -1;
    int[][] amounts = new int[0][0];
    boolean[] jammed = new boolean[0];
    List<Integer> state = new ArrayList<>();
    List<Integer> wish = new ArrayList<>();
    final Deque<Integer> presses = new ArrayDeque<>();
    final Map<Integer, List<Integer>> slots = new HashMap<>();
    List<Integer> row = null;
    List<Integer> nearest = null;
    byte[] tape = new byte[0];
    int place = -1;

    int feed(int... five) {
        if (tape.length + 20 > 500) {
            return -1;
        }
        int at = tape.length;
        tape = Arrays.copyOf(tape, at + 20);
        for (int number : five) {
            for (int i = 3; i >= 0; i--) {
                tape[at++] = (byte) (number >> 8 * i);
            }
        }
        return tape.length;
    }

    int hall(int bytes) {
        if (bytes < 0 || bytes > tape.length) {
            throw new IllegalArgumentException();
        }
        ModelText text = new ModelText(Arrays.copyOf(tape, bytes));
        tape = new byte[0];
        place = text.place;
        if (text.fault != 0) {
            return text.fault;
        }
        q = text.q;
        n = text.n;
        w = text.w;
        h = text.h;
        edges = text.edges;
        amounts = text.amounts;
        jammed = text.jammed;
        state = rowOf(0);
        wish = rowOf(0);
        presses.clear();
        slots.clear();
        row = null;
        nearest = null;
        return 0;
    }

    int count(int what) {
        int jams = 0;
        for (boolean jam : jammed) {
            jams += jam ? 1 : 0;
        }
        int[] counts = {n, q, w, h, edges, presses.size(), tape.length, jams};
        need(what >= 0 && what < counts.length);
        return counts[what];
    }

    int amount(int button, int lamp) {
        need(isLamp(button) && isLamp(lamp));
        return amounts[button][lamp];
    }

    int colour(int lamp, int what) {
        need(isLamp(lamp) && (what == 0 || what == 1));
        return (what == 0 ? state : wish).get(lamp);
    }

    boolean set(int lamp, int what, int colour) {
        need(isLamp(lamp) && (what == 0 || what == 1));
        if (colour < 0 || colour >= q) {
            return false;
        }
        List<Integer> changed = new ArrayList<>(what == 0 ? state : wish);
        changed.set(lamp, colour);
        told(what, changed);
        return true;
    }

    boolean fill(int what, int colour) {
        need(what == 0 || what == 1);
        if (colour < 0 || colour >= q) {
            return false;
        }
        told(what, rowOf(colour));
        return true;
    }

    void draw(int seed) {
        List<Integer> drawn = new ArrayList<>();
        int number = seed;
        for (int lamp = 0; lamp < n; lamp++) {
            number = (int) ((long) number * 1103515245L + 12345L);
            drawn.add((number >> 16 & 32767) % q);
        }
        told(0, drawn);
    }

    boolean jam(int button, boolean is) {
        need(isLamp(button));
        boolean was = jammed[button];
        jammed[button] = is;
        return was;
    }

    boolean press(int button) {
        need(isLamp(button));
        if (jammed[button]) {
            return false;
        }
        pressed(button);
        return true;
    }

    int back() {
        if (presses.isEmpty()) {
            return -1;
        }
        int button = presses.removeLast();
        state = stepped(state, button, q - 1);
        return button;
    }

    int rank() {
        return working().size() - ties(0).size();
    }

    int bound(int what, int i) {
        need(what == 0 || what == 1);
        List<Integer> bound = new ArrayList<>(ties(what).keySet());
        if (i == -1) {
            return bound.size();
        }
        need(i >= 0 && i < bound.size());
        return bound.get(i);
    }

    int quiet(int i, int button) {
        return tied(0, i, button);
    }

    int sum(int i, int lamp) {
        return tied(1, i, lamp);
    }

    private int tied(int what, int i, int id) {
        List<List<Integer>> mixes = new ArrayList<>(ties(what).values());
        need(i >= 0 && i < mixes.size() && isLamp(id));
        return mixes.get(i).get(id);
    }

    int why() {
        int i = 0;
        for (List<Integer> mix : ties(1).values()) {
            int together = 0;
            for (int lamp = 0; lamp < n; lamp++) {
                together += mix.get(lamp) * (wish.get(lamp) - state.get(lamp) + q);
            }
            if (together % q != 0) {
                return i;
            }
            i++;
        }
        return -1;
    }

    int solve(int kind) {
        need(kind >= 0 && kind <= 2);
        List<List<Integer>> rows = leading();
        if (rows.isEmpty()) {
            return -1;
        }
        if (Math.pow(q, ties(0).size()) > 20000) {
            return -2;
        }
        List<Integer> best = null;
        int least = -1;
        for (List<Integer> candidate : rows) {
            int cost = 0;
            boolean fits = true;
            for (int number : candidate) {
                cost += kind == 1 ? Integer.signum(number) : number;
                fits &= kind != 2 || number <= 1;
            }
            if (fits && (best == null || cost < least)) {
                best = candidate;
                least = cost;
            }
        }
        row = best == null ? row : best;
        return least;
    }

    int times(int button) {
        need(isLamp(button) && row != null);
        return row.get(button);
    }

    int apply() {
        if (row == null) {
            return -1;
        }
        int made = 0;
        for (int button = 0; button < n; button++) {
            for (int i = 0; i < row.get(button); i++) {
                made += press(button) ? 1 : 0;
            }
        }
        return made;
    }

    int needed(int what) {
        need(what == 0 || what == 1);
        List<List<Integer>> rows = leading();
        if (rows.isEmpty()) {
            return -1;
        }
        int many = 0;
        for (int button = 0; button < n; button++) {
            Set<Integer> numbers = new HashSet<>();
            for (List<Integer> leads : rows) {
                numbers.add(leads.get(button));
            }
            boolean is = what == 0 ? !numbers.contains(0) : numbers.size() > 1;
            many += is ? 1 : 0;
        }
        return many;
    }

    int hard(int k) {
        if (Math.pow(q, rank()) > 10000) {
            return -2;
        }
        int most = 0;
        int many = 0;
        for (int made : fewestFrom(rowOf(0)).values()) {
            most = Math.max(most, made);
            many += made == k ? 1 : 0;
        }
        return k == -1 ? most : many;
    }

    /** All states that can be made of one, each with the fewest presses that do. */
    Map<List<Integer>, Integer> fewestFrom(List<Integer> start) {
        Map<List<Integer>, Integer> fewest = new HashMap<>();
        for (List<Integer> numbers : allRows()) {
            int made = 0;
            for (int number : numbers) {
                made += number;
            }
            fewest.merge(behind(start, numbers), made, Math::min);
        }
        return fewest;
    }

    int nearest() {
        if (Math.pow(q, rank()) > 10000) {
            return -2;
        }
        List<Integer> best = null;
        for (List<Integer> made : fewestFrom(state).keySet()) {
            if (best == null || unlike(made) < unlike(best) || unlike(made) == unlike(best) && isBefore(made, best)) {
                best = made;
            }
        }
        nearest = best;
        return unlike(best);
    }

    int near(int lamp) {
        need(isLamp(lamp) && nearest != null);
        return nearest.get(lamp);
    }

    int chase() {
        if (edges == -1) {
            return -1;
        }
        int made = 0;
        for (int y = 1; y < h; y++) {
            for (int x = 0; x < w; x++) {
                int button = x + w * y;
                int often = 0;
                while (often < q && !stepped(state, button, often).get(button - w).equals(wish.get(button - w))) {
                    often++;
                }
                for (int i = 0; i < often && often < q; i++) {
                    made += press(button) ? 1 : 0;
                }
            }
        }
        return made;
    }

    int top() {
        if (edges == -1) {
            return -1;
        }
        for (List<Integer> numbers : rows(w)) {
            Model other = new Model();
            other.q = q;
            other.n = n;
            other.w = w;
            other.h = h;
            other.edges = edges;
            other.amounts = amounts;
            other.jammed = jammed;
            other.state = state;
            other.wish = wish;
            int number = 0;
            boolean may = true;
            for (int x = w - 1; x >= 0; x--) {
                number = number * q + numbers.get(x);
                may &= !jammed[x] || numbers.get(x) == 0;
                other.state = other.stepped(other.state, x, numbers.get(x));
            }
            other.chase();
            if (may && other.state.equals(wish)) {
                return number;
            }
        }
        return -1;
    }

    int lit(int what) {
        need(what >= 0 && what <= 2);
        if (Math.pow(q, n) > 20000) {
            return -2;
        }
        Map<List<Integer>, Integer> far = litFrom(state);
        if (what == 2) {
            return far.size();
        }
        if (what == 0 || !far.containsKey(wish) || state.equals(wish)) {
            return what == 0 ? far.getOrDefault(wish, -1) : -1;
        }
        for (int button : litButtons(state)) {
            Integer rest = litFrom(stepped(state, button, 1)).get(wish);
            if (rest != null && rest + 1 == far.get(wish)) {
                return button;
            }
        }
        return -1;
    }

    private Map<List<Integer>, Integer> litFrom(List<Integer> start) {
        Map<List<Integer>, Integer> far = new HashMap<>();
        Deque<List<Integer>> waiting = new ArrayDeque<>();
        far.put(start, 0);
        waiting.add(start);
        while (!waiting.isEmpty()) {
            List<Integer> here = waiting.remove();
            for (int button : litButtons(here)) {
                List<Integer> there = stepped(here, button, 1);
                if (far.putIfAbsent(there, far.get(here) + 1) == null) {
                    waiting.add(there);
                }
            }
        }
        return far;
    }

    List<Integer> litButtons(List<Integer> from) {
        List<Integer> may = working();
        may.removeIf(button -> from.get(button) == 0);
        return may;
    }

    int game() {
        return n > 12 ? -2 : winning(state, new HashSet<>());
    }

    int winning(List<Integer> from, Set<Integer> used) {
        for (int button : litButtons(from)) {
            if (used.add(button)) {
                int answer = winning(stepped(from, button, 1), used);
                used.remove(button);
                if (answer == -1) {
                    return button;
                }
            }
        }
        return -1;
    }

    boolean pulse(int many) {
        if (many < 0 || many > 100) {
            return false;
        }
        for (int i = 0; i < many; i++) {
            state = pulsed(state);
        }
        presses.clear();
        return true;
    }

    private List<Integer> pulsed(List<Integer> from) {
        List<Integer> to = from;
        for (int button : working()) {
            to = stepped(to, button, from.get(button));
        }
        return to;
    }

    int round(int what) {
        need(what == 0 || what == 1);
        List<List<Integer>> come = new ArrayList<>();
        List<Integer> here = state;
        for (int made = 0; made <= 300; made++) {
            int at = come.indexOf(here);
            if (at >= 0) {
                return what == 0 ? at : made - at;
            }
            come.add(here);
            here = pulsed(here);
        }
        return -1;
    }

    int twin(int button) {
        need(isLamp(button));
        int least = 0;
        while (!Arrays.equals(amounts[least], amounts[button])) {
            least++;
        }
        return least;
    }

    boolean keep(int slot) {
        if (slot < 0 || slot > 3) {
            return false;
        }
        slots.put(slot, state);
        return true;
    }

    boolean take(int slot, int what) {
        need(what == 0 || what == 1);
        if (!slots.containsKey(slot)) {
            return false;
        }
        told(what, slots.get(slot));
        return true;
    }

    static void need(boolean there) {
        if (!there) {
            throw new NoSuchElementException();
        }
    }

    private boolean isLamp(int lamp) {
        return lamp >= 0 && lamp < n;
    }

    List<Integer> rowOf(int colour) {
        List<Integer> row = new ArrayList<>();
        for (int lamp = 0; lamp < n; lamp++) {
            row.add(colour);
        }
        return row;
    }

    private void told(int what, List<Integer> to) {
        if (what == 0) {
            state = to;
            presses.clear();
        } else {
            wish = to;
        }
    }

    private void pressed(int button) {
        state = stepped(state, button, 1);
        presses.addLast(button);
        if (presses.size() > 100) {
            presses.removeFirst();
        }
    }

    List<Integer> stepped(List<Integer> from, int button, int often) {
        List<Integer> to = new ArrayList<>();
        for (int lamp = 0; lamp < n; lamp++) {
            to.add((from.get(lamp) + often * amounts[button][lamp]) % q);
        }
        return to;
    }

    List<Integer> behind(List<Integer> from, List<Integer> numbers) {
        List<Integer> to = from;
        for (int button = 0; button < n; button++) {
            to = numbers.get(button) == 0 ? to : stepped(to, button, numbers.get(button));
        }
        return to;
    }

    List<Integer> working() {
        List<Integer> buttons = new ArrayList<>();
        for (int button = 0; button < n; button++) {
            if (!jammed[button]) {
                buttons.add(button);
            }
        }
        return buttons;
    }

    private int unlike(List<Integer> made) {
        int many = 0;
        for (int lamp = 0; lamp < n; lamp++) {
            many += made.get(lamp).equals(wish.get(lamp)) ? 0 : 1;
        }
        return many;
    }

    private static boolean isBefore(List<Integer> one, List<Integer> other) {
        for (int i = 0; i < one.size(); i++) {
            if (!one.get(i).equals(other.get(i))) {
                return one.get(i) < other.get(i);
            }
        }
        return false;
    }

    /** All rows of so many numbers, the first as a row first. */
    private List<List<Integer>> rows(int many) {
        List<List<Integer>> rows = new ArrayList<>();
        rows.add(new ArrayList<>());
        for (int i = 0; i < many; i++) {
            List<List<Integer>> longer = new ArrayList<>();
            for (List<Integer> shorter : rows) {
                for (int number = 0; number < q; number++) {
                    List<Integer> one = new ArrayList<>(shorter);
                    one.add(number);
                    longer.add(one);
                }
            }
            rows = longer;
        }
        return rows;
    }

    private List<List<Integer>> allRows() {
        List<List<Integer>> rows = rows(n);
        rows.removeIf(numbers -> {
            for (int button = 0; button < n; button++) {
                if (jammed[button] && numbers.get(button) != 0) {
                    return true;
                }
            }
            return false;
        });
        return rows;
    }

    /** All rows that lead, the first as a row first. */
    List<List<Integer>> leading() {
        List<List<Integer>> rows = allRows();
        rows.removeIf(numbers -> !behind(state, numbers).equals(wish));
        return rows;
    }

    /** Of each bound button (what 0) or lamp (1) the numbers by which it and lesser ones are nothing together. */
    Map<Integer, List<Integer>> ties(int what) {
        Map<Integer, List<Integer>> ties = new TreeMap<>();
        Map<List<Integer>, List<Integer>> sums = new HashMap<>();
        sums.put(rowOf(0), rowOf(0));
        for (int id = 0; id < n; id++) {
            if (what == 0 && jammed[id]) {
                continue;
            }
            List<Integer> vector = new ArrayList<>();
            List<Integer> minus = new ArrayList<>();
            for (int i = 0; i < n; i++) {
                int number = what == 0 ? amounts[id][i] : jammed[i] ? 0 : amounts[i][id];
                vector.add(number);
                minus.add((q - number) % q);
            }
            if (sums.containsKey(minus)) {
                List<Integer> mix = new ArrayList<>(sums.get(minus));
                mix.set(id, 1);
                ties.put(id, mix);
            } else {
                addTimes(sums, id, vector);
            }
        }
        return ties;
    }

    private void addTimes(Map<List<Integer>, List<Integer>> sums, int id, List<Integer> vector) {
        Set<List<Integer>> before = new LinkedHashSet<>(sums.keySet());
        for (List<Integer> sum : before) {
            List<Integer> grown = sum;
            for (int often = 1; often < q; often++) {
                List<Integer> next = new ArrayList<>();
                for (int i = 0; i < n; i++) {
                    next.add((grown.get(i) + vector.get(i)) % q);
                }
                List<Integer> mix = new ArrayList<>(sums.get(sum));
                mix.set(id, often);
                sums.put(next, mix);
                grown = next;
            }
        }
    }
}

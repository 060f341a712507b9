import java.util.ArrayDeque;
import java.util.ArrayList;
import java.util.Collections;
import java.util.Deque;
import java.util.HashMap;
import java.util.List;
import java.util.Map;
import java.util.Set;
import java.util.TreeMap;

/** The model for halls of up to 36 lamps: equations are solved where the plain one goes through all rows. */
final class WideModel extends Model {
    private final Map<Set<Integer>, Integer> moves = new HashMap<>();

    /** Equations brought to their simplest form, all by columns from the first on. */
    private final class Equations {
        final int[][] rows;
        final List<Integer> pivots = new ArrayList<>();

        Equations(int[][] rows, int columns) {
            this.rows = rows;
            for (int column = 0; column < columns; column++) {
                clear(column);
            }
        }

        private void clear(int column) {
            int at = pivots.size();
            int found = at;
            while (found < rows.length && rows[found][column] == 0) {
                found++;
            }
            if (found == rows.length) {
                return;
            }
            int[] moved = rows[found];
            rows[found] = rows[at];
            rows[at] = moved;
            int often = 1;
            while (often * moved[column] % q != 1) {
                often++;
            }
            for (int i = 0; i < moved.length; i++) {
                moved[i] = moved[i] * often % q;
            }
            for (int other = 0; other < rows.length; other++) {
                int less = other == at ? 0 : rows[other][column];
                for (int i = 0; i < moved.length; i++) {
                    rows[other][i] = (rows[other][i] + (q - less) * moved[i]) % q;
                }
            }
            pivots.add(column);
        }
    }

    /** A column for each button (0 of jammed ones, and of one left out), behind them what the wish is more. */
    private int[][] equations(int without) {
        int[][] rows = new int[n][n + 1];
        for (int lamp = 0; lamp < n; lamp++) {
            for (int button = 0; button < n; button++) {
                rows[lamp][button] = jammed[button] || button == without ? 0 : amounts[button][lamp];
            }
            rows[lamp][n] = (wish.get(lamp) - state.get(lamp) + q) % q;
        }
        return rows;
    }

    private boolean leads(int without) {
        return !new Equations(equations(without), n + 1).pivots.contains(n);
    }

    private int rankWithout(int without) {
        return new Equations(equations(without), n).pivots.size();
    }

    @Override
    Map<Integer, List<Integer>> ties(int what) {
        int[][] rows = new int[n][n];
        for (int i = 0; i < n; i++) {
            for (int button = 0; button < n; button++) {
                if (!jammed[button]) {
                    rows[what == 0 ? i : button][what == 0 ? button : i] = amounts[button][i];
                }
            }
        }
        Equations equations = new Equations(rows, n);
        Map<Integer, List<Integer>> ties = new TreeMap<>();
        for (int id = 0; id < n; id++) {
            if (!equations.pivots.contains(id) && !(what == 0 && jammed[id])) {
                List<Integer> mix = rowOf(0);
                mix.set(id, 1);
                for (int i = 0; i < equations.pivots.size(); i++) {
                    if (equations.pivots.get(i) < id) {
                        mix.set(equations.pivots.get(i), (q - equations.rows[i][id]) % q);
                    }
                }
                ties.put(id, mix);
            }
        }
        return ties;
    }

    /** Of more rows than may be gone through one alone. */
    @Override
    List<List<Integer>> leading() {
        List<List<Integer>> leading = new ArrayList<>();
        if (!leads(-1)) {
            return leading;
        }
        Equations equations = new Equations(equations(-1), n);
        List<Integer> one = rowOf(0);
        for (int i = 0; i < equations.pivots.size(); i++) {
            one.set(equations.pivots.get(i), equations.rows[i][n]);
        }
        leading.add(one);
        Map<Integer, List<Integer>> ties = ties(0);
        if (Math.pow(q, ties.size()) > 20000) {
            return leading;
        }
        for (List<Integer> tie : ties.values()) {
            int before = leading.size();
            for (int i = 0; i < before * (q - 1); i++) {
                leading.add(sum(leading.get(i), tie));
            }
        }
        Collections.sort(leading, WideModel::compareRows);
        return leading;
    }

    private List<Integer> sum(List<Integer> left, List<Integer> right) {
        List<Integer> sum = new ArrayList<>(n);
        for (int i = 0; i < n; i++) {
            sum.add((left.get(i) + right.get(i)) % q);
        }
        return sum;
    }

    private static int compareRows(List<Integer> left, List<Integer> right) {
        for (int i = 0; i < left.size(); i++) {
            if (!left.get(i).equals(right.get(i))) {
                return left.get(i) - right.get(i);
            }
        }
        return 0;
    }

    /** Without a needed button nothing leads; without a free one as much can be made. */
    @Override
    int needed(int what) {
        need(what == 0 || what == 1);
        if (!leads(-1)) {
            return -1;
        }
        int many = 0;
        for (int button : working()) {
            boolean is = what == 0 ? !leads(button) : rankWithout(button) == rankWithout(-1);
            many += is ? 1 : 0;
        }
        return many;
    }

    @Override
    Map<List<Integer>, Integer> fewestFrom(List<Integer> start) {
        Map<List<Integer>, Integer> fewest = new HashMap<>();
        Deque<List<Integer>> waiting = new ArrayDeque<>();
        fewest.put(start, 0);
        waiting.add(start);
        while (!waiting.isEmpty()) {
            List<Integer> here = waiting.remove();
            for (int button : working()) {
                List<Integer> there = stepped(here, button, 1);
                if (fewest.putIfAbsent(there, fewest.get(here) + 1) == null) {
                    waiting.add(there);
                }
            }
        }
        return fewest;
    }

    @Override
    int game() {
        moves.clear();
        return super.game();
    }

    /** What was pressed tells the state, so each set of pressed buttons is looked at once. */
    @Override
    int winning(List<Integer> from, Set<Integer> used) {
        Integer known = moves.get(used);
        if (known == null) {
            known = super.winning(from, used);
            moves.put(Set.copyOf(used), known);
        }
        return known;
    }
}

import java.util.Arrays;
import java.util.NoSuchElementException;

/** Lamps, and buttons that step them, told by texts: what can be brought to what is wished, and how. */
public final class LampHall {

    public static final int NONE = -1;

    private static final int TOO_MANY = -2;
    private static final int MOST_LAMPS = 36;
    private static final int MOST_COLOURS = 5;
    private static final int MOST_ROWS_SOUGHT = 20000;
    private static final int MOST_DIFFERENCES = 10000;
    private static final int MOST_LIT_STATES = 20000;
    private static final int MOST_GAME_LAMPS = 12;
    private static final int MOST_PULSES = 100;
    private static final int SLOTS = 4;
    private static final int STATE = 0;
    private static final int WISH = 1;

    private final Reader reader = new Reader();
    private Wiring wiring = new Wiring();
    private Wiring spare = new Wiring();
    private final Algebra algebra = new Algebra();
    private final int[] state = new int[MOST_LAMPS];
    private final int[] wish = new int[MOST_LAMPS];
    private final Presses presses = new Presses();
    private final int[][] slots = new int[SLOTS][MOST_LAMPS];
    private final boolean[] slotUsed = new boolean[SLOTS];
    private final int[] keptRow = new int[MOST_LAMPS];
    private boolean rowKept;
    private final int[] keptNearest = new int[MOST_LAMPS];
    private boolean nearestKept;
    private final Search search = new Search();
    private final Walk walk = new Walk();
    private final Cycle cycle = new Cycle();
    private final int[] scratch = new int[MOST_LAMPS];
    private final int[] numbers = new int[MOST_LAMPS];
    private boolean litFresh;
    private boolean cycleFresh;

    public LampHall() {
    }

    public int feed(int a, int b, int c, int d, int e) {
        if (!reader.hasRoom(20)) {
            return NONE;
        }
        reader.put(a);
        reader.put(b);
        reader.put(c);
        reader.put(d);
        reader.put(e);
        return reader.fed;
    }

    public int hall(int n) throws IllegalArgumentException {
        if (n < 0 || n > reader.fed) {
            throw new IllegalArgumentException("the tape has not so many bytes");
        }
        int wrong = reader.read(n, spare);
        if (wrong == 0) {
            moveIn();
        }
        return wrong;
    }

    public int fault() {
        return reader.place;
    }

    public int count(int what) throws NoSuchElementException {
        switch (what) {
            case 0:
                return wiring.lamps;
            case 1:
                return wiring.colours;
            case 2:
                return wiring.columns;
            case 3:
                return wiring.rows;
            case 4:
                return wiring.edges;
            case 5:
                return presses.size;
            case 6:
                return reader.fed;
            case 7:
                return wiring.jammedCount();
            default:
                throw new NoSuchElementException("no such what");
        }
    }

    public int amount(int button, int lamp) throws NoSuchElementException {
        requireLamp(button);
        requireLamp(lamp);
        return wiring.amounts[button][lamp];
    }

    public int colour(int lamp, int what) throws NoSuchElementException {
        requireLamp(lamp);
        requireStateOrWish(what);
        return what == STATE ? state[lamp] : wish[lamp];
    }

    public boolean set(int lamp, int what, int colour) throws NoSuchElementException {
        requireLamp(lamp);
        requireStateOrWish(what);
        if (colour < 0 || colour >= wiring.colours) {
            return false;
        }
        row(what)[lamp] = colour;
        told(what);
        return true;
    }

    public boolean fill(int what, int colour) throws NoSuchElementException {
        requireStateOrWish(what);
        if (colour < 0 || colour >= wiring.colours) {
            return false;
        }
        int[] row = row(what);
        for (int lamp = 0; lamp < wiring.lamps; lamp++) {
            row[lamp] = colour;
        }
        told(what);
        return true;
    }

    public void draw(int seed) {
        int drawn = seed;
        for (int lamp = 0; lamp < wiring.lamps; lamp++) {
            drawn = drawn * 1103515245 + 12345;
            state[lamp] = mod((drawn >>> 16) & 0x7fff, wiring.colours);
        }
        told(STATE);
    }

    public boolean jam(int button, boolean is) throws NoSuchElementException {
        requireLamp(button);
        boolean was = wiring.jammed[button];
        if (was != is) {
            wiring.jammed[button] = is;
            algebra.forget();
            forgetWays();
        }
        return was;
    }

    public boolean press(int button) throws NoSuchElementException {
        requireLamp(button);
        if (wiring.jammed[button]) {
            return false;
        }
        pressAndLog(button, 1);
        return true;
    }

    public int back() {
        int button = presses.removeLatest();
        if (button < 0 || button >= wiring.lamps) {
            return NONE;
        }
        wiring.step(state, button, wiring.colours - 1);
        forgetWays();
        return button;
    }

    public int rank() {
        return algebra.buttonSpan(wiring).ownCount;
    }

    public int bound(int what, int i) throws NoSuchElementException {
        if (what != 0 && what != 1) {
            throw new NoSuchElementException("no such what");
        }
        Span span = what == 0 ? algebra.buttonSpan(wiring) : algebra.lampSpan(wiring);
        if (i == NONE) {
            return span.tiedCount;
        }
        requireTied(span, i);
        return span.tied[i];
    }

    public int quiet(int i, int button) throws NoSuchElementException {
        requireLamp(button);
        Span span = algebra.buttonSpan(wiring);
        requireTied(span, i);
        return span.mix[span.tied[i]][button];
    }

    public int sum(int i, int lamp) throws NoSuchElementException {
        requireLamp(lamp);
        Span span = algebra.lampSpan(wiring);
        requireTied(span, i);
        return span.mix[span.tied[i]][lamp];
    }

    public int why() {
        Span span = algebra.lampSpan(wiring);
        takeDifference();
        for (int i = 0; i < span.tiedCount; i++) {
            if (dot(span.mix[span.tied[i]], scratch) != 0) {
                return i;
            }
        }
        return NONE;
    }

    public int solve(int kind) throws NoSuchElementException {
        if (kind < 0 || kind > 2) {
            throw new NoSuchElementException("no such kind");
        }
        Span span = algebra.lateSpan(wiring);
        takeDifference();
        if (!span.express(scratch, numbers)) {
            return NONE;
        }
        if (exceeds(wiring.colours, span.tiedCount, MOST_ROWS_SOUGHT)) {
            return TOO_MANY;
        }
        search.begin(wiring.lamps, wiring.colours, numbers);
        search.countPresses(kind);
        for (int i = span.tiedCount - 1; i >= 0; i--) {
            search.addFree(span.tied[i], span.mix[span.tied[i]]);
        }
        int least = search.run();
        if (least != NONE) {
            System.arraycopy(search.best, 0, keptRow, 0, MOST_LAMPS);
            rowKept = true;
        }
        return least;
    }

    public int times(int button) throws NoSuchElementException {
        requireLamp(button);
        if (!rowKept) {
            throw new NoSuchElementException("no row is kept");
        }
        return keptRow[button];
    }

    public int apply() {
        if (!rowKept) {
            return NONE;
        }
        int made = 0;
        for (int button = 0; button < wiring.lamps; button++) {
            if (!wiring.jammed[button]) {
                pressAndLog(button, keptRow[button]);
                made += keptRow[button];
            }
        }
        return made;
    }

    public int needed(int what) throws NoSuchElementException {
        if (what != 0 && what != 1) {
            throw new NoSuchElementException("no such what");
        }
        Span span = algebra.lateSpan(wiring);
        takeDifference();
        if (!span.express(scratch, numbers)) {
            return NONE;
        }
        int many = 0;
        for (int button = 0; button < wiring.lamps; button++) {
            boolean free = span.isInSomeTie(button);
            if (what == 1 ? free : !free && numbers[button] != 0) {
                many++;
            }
        }
        return many;
    }

    public int hard(int k) {
        if (exceeds(wiring.colours, rank(), MOST_DIFFERENCES)) {
            return TOO_MANY;
        }
        if (!algebra.needsFresh) {
            algebra.findNeeds(wiring, walk);
            litFresh = false;
        }
        if (k == NONE) {
            return algebra.mostNeeded;
        }
        return k >= 0 && k < algebra.needs.length ? algebra.needs[k] : 0;
    }

    public int nearest() {
        Span span = algebra.lampSpan(wiring);
        if (exceeds(wiring.colours, span.ownCount, MOST_DIFFERENCES)) {
            return TOO_MANY;
        }
        Arrays.fill(numbers, 0);
        for (int i = 0; i < span.tiedCount; i++) {
            numbers[span.tied[i]] = dot(span.mix[span.tied[i]], state);
        }
        search.begin(wiring.lamps, wiring.colours, numbers);
        search.countUnlike(wish);
        for (int i = 0; i < span.ownCount; i++) {
            takeLampStep(span, span.own[i]);
            search.addFree(span.own[i], scratch);
        }
        int least = search.run();
        System.arraycopy(search.best, 0, keptNearest, 0, MOST_LAMPS);
        nearestKept = true;
        return least;
    }

    public int near(int lamp) throws NoSuchElementException {
        requireLamp(lamp);
        if (!nearestKept) {
            throw new NoSuchElementException("nothing nearest is kept");
        }
        return keptNearest[lamp];
    }

    public int chase() {
        if (wiring.isNet()) {
            return NONE;
        }
        int made = 0;
        for (int button = wiring.columns; button < wiring.lamps; button++) {
            int often = chasing(state, wish, button);
            pressAndLog(button, often);
            made += often;
        }
        return made;
    }

    public int top() {
        if (wiring.isNet()) {
            return NONE;
        }
        Span span = algebra.topSpan;
        span.begin(wiring.lamps, wiring.colours);
        // A chase is linear, so each top button is chased alone; from the last on, for the first row of all.
        for (int button = wiring.columns - 1; button >= 0; button--) {
            if (!wiring.jammed[button]) {
                System.arraycopy(wiring.amounts[button], 0, scratch, 0, MOST_LAMPS);
                Arrays.fill(numbers, 0);
                chaseUnlogged(scratch, numbers);
                span.admit(button, scratch);
            }
        }
        System.arraycopy(state, 0, scratch, 0, MOST_LAMPS);
        chaseUnlogged(scratch, wish);
        subtractFromWish(scratch);
        return span.express(scratch, numbers) ? topNumber() : NONE;
    }

    public int lit(int what) throws NoSuchElementException {
        if (what < 0 || what > 2) {
            throw new NoSuchElementException("no such what");
        }
        if (exceeds(wiring.colours, wiring.lamps, MOST_LIT_STATES)) {
            return TOO_MANY;
        }
        if (!litFresh) {
            walkLit();
            litFresh = true;
        }
        if (what == 0) {
            return walk.targetLevel;
        }
        return what == 1 ? walk.targetFirst : walk.total;
    }

    public int game() {
        int n = wiring.lamps;
        if (n > MOST_GAME_LAMPS) {
            return TOO_MANY;
        }
        // What was pressed tells THE STATE, so the sets of pressed buttons are gone through, the fullest first.
        int[] won = walk.mark;
        litFresh = false;
        int all = (1 << n) - 1;
        System.arraycopy(state, 0, scratch, 0, MOST_LAMPS);
        for (int button = 0; button < n; button++) {
            wiring.step(scratch, button, 1);
        }
        int move = NONE;
        for (int pressed = all; pressed >= 0; pressed--) {
            move = winningMove(pressed, won);
            won[pressed] = move == NONE ? 0 : 1;
            stepToLesserSet(pressed);
        }
        return move;
    }

    public boolean pulse(int many) {
        if (many < 0 || many > MOST_PULSES) {
            return false;
        }
        for (int i = 0; i < many; i++) {
            wiring.beat(state, scratch);
        }
        told(STATE);
        return true;
    }

    public int round(int what) throws NoSuchElementException {
        if (what != 0 && what != 1) {
            throw new NoSuchElementException("no such what");
        }
        if (!cycleFresh) {
            cycle.find(wiring, state);
            cycleFresh = true;
        }
        return what == 0 ? cycle.after : cycle.every;
    }

    public int twin(int button) throws NoSuchElementException {
        requireLamp(button);
        for (int other = 0; other < button; other++) {
            if (wiring.doAlike(other, button)) {
                return other;
            }
        }
        return button;
    }

    public boolean keep(int slot) {
        if (slot < 0 || slot >= SLOTS) {
            return false;
        }
        System.arraycopy(state, 0, slots[slot], 0, MOST_LAMPS);
        slotUsed[slot] = true;
        return true;
    }

    public boolean take(int slot, int what) throws NoSuchElementException {
        requireStateOrWish(what);
        if (slot < 0 || slot >= SLOTS || !slotUsed[slot]) {
            return false;
        }
        System.arraycopy(slots[slot], 0, row(what), 0, MOST_LAMPS);
        told(what);
        return true;
    }

    private void requireLamp(int lamp) {
        if (lamp < 0 || lamp >= wiring.lamps) {
            throw new NoSuchElementException("no such lamp or button");
        }
    }

    private static void requireStateOrWish(int what) {
        if (what != STATE && what != WISH) {
            throw new NoSuchElementException("neither state nor wish");
        }
    }

    private static void requireTied(Span span, int i) {
        if (i < 0 || i >= span.tiedCount) {
            throw new NoSuchElementException("not so many are bound");
        }
    }

    private int[] row(int what) {
        return what == STATE ? state : wish;
    }

    /** A row was told, not pressed: presses lead no more from it to what was before. */
    private void told(int what) {
        if (what == STATE) {
            presses.clear();
        }
        forgetWays();
    }

    private void forgetWays() {
        litFresh = false;
        cycleFresh = false;
    }

    private void moveIn() {
        Wiring old = wiring;
        wiring = spare;
        spare = old;
        algebra.forget();
        Arrays.fill(state, 0);
        Arrays.fill(wish, 0);
        presses.clear();
        for (int slot = 0; slot < SLOTS; slot++) {
            slotUsed[slot] = false;
        }
        rowKept = false;
        nearestKept = false;
        forgetWays();
    }

    private void pressAndLog(int button, int often) {
        wiring.step(state, button, often);
        for (int i = 0; i < often; i++) {
            presses.add(button);
        }
        forgetWays();
    }

    /** Into scratch: what THE WISH is more than THE STATE. */
    private void takeDifference() {
        System.arraycopy(state, 0, scratch, 0, MOST_LAMPS);
        subtractFromWish(scratch);
    }

    private void subtractFromWish(int[] from) {
        for (int lamp = 0; lamp < wiring.lamps; lamp++) {
            from[lamp] = mod(wish[lamp] - from[lamp], wiring.colours);
        }
    }

    private int dot(int[] left, int[] right) {
        int together = 0;
        for (int lamp = 0; lamp < wiring.lamps; lamp++) {
            together += left[lamp] * right[lamp];
        }
        return mod(together, wiring.colours);
    }

    /** Into scratch: how all lamps go on, when a lamp that isn't bound goes on by 1 and the others of its kind stay. */
    private void takeLampStep(Span span, int lamp) {
        Arrays.fill(scratch, 0);
        scratch[lamp] = 1;
        for (int i = 0; i < span.tiedCount; i++) {
            int tied = span.tied[i];
            scratch[tied] = mod(-span.mix[tied][lamp], wiring.colours);
        }
    }

    /** How often a button is pressed in a chase, the row being what it is. */
    private int chasing(int[] row, int[] goal, int button) {
        int above = button - wiring.columns;
        if (above < 0 || wiring.jammed[button]) {
            return 0;
        }
        int lacking = mod(goal[above] - row[above], wiring.colours);
        return mod(lacking * inverse(wiring.amounts[button][above], wiring.colours), wiring.colours);
    }

    private void chaseUnlogged(int[] row, int[] goal) {
        for (int button = wiring.columns; button < wiring.lamps; button++) {
            wiring.step(row, button, chasing(row, goal, button));
        }
    }

    private int topNumber() {
        int number = 0;
        for (int button = wiring.columns - 1; button >= 0; button--) {
            number = number * wiring.colours + numbers[button];
        }
        return number;
    }

    private void walkLit() {
        walk.begin(wiring.lamps, wiring.colours);
        for (int button = 0; button < wiring.lamps; button++) {
            if (!wiring.jammed[button]) {
                walk.addMove(button, wiring.amounts[button], button);
            }
        }
        walk.go(walk.codeOf(state), walk.codeOf(wish));
    }

    /** The least button that leaves a lost game to the other; scratch has the colours behind what was pressed. */
    private int winningMove(int pressed, int[] won) {
        for (int button = 0; button < wiring.lamps; button++) {
            int bit = 1 << button;
            boolean may = (pressed & bit) == 0 && !wiring.jammed[button] && scratch[button] != 0;
            if (may && won[pressed | bit] == 0) {
                return button;
            }
        }
        return NONE;
    }

    /** A set as a number less 1: its least button goes, and all below that come. */
    private void stepToLesserSet(int pressed) {
        for (int button = 0; button < wiring.lamps; button++) {
            if ((pressed & (1 << button)) != 0) {
                wiring.step(scratch, button, wiring.colours - 1);
                return;
            }
            wiring.step(scratch, button, 1);
        }
    }

    private static int mod(int value, int colours) {
        return colours < 2 ? 0 : Math.floorMod(value, colours);
    }

    /** What times the value is 1; 0 of 0. */
    private static int inverse(int value, int colours) {
        for (int other = 1; other < colours; other++) {
            if (value * other % colours == 1) {
                return other;
            }
        }
        return 0;
    }

    private static void addTimes(int[] into, int[] from, int often, int colours, int width) {
        if (often == 0 || colours < 2 || width > into.length || width > from.length) {
            return;
        }
        for (int i = 0; i < width; i++) {
            if (from[i] != 0) {
                into[i] = (into[i] + often * from[i]) % colours;
            }
        }
    }

    private static boolean exceeds(int base, int power, int limit) {
        int product = 1;
        for (int i = 0; i < power && product <= limit; i++) {
            product *= base;
        }
        return product > limit;
    }

    /** What a text tells: lamps, colours, what each button does, and which are jammed. */
    private static final class Wiring {
        static final int SELF = 0;
        static final int SIDE = 1;
        static final int SLANT = 2;
        static final int LEAP = 3;
        static final int ROW = 4;
        static final int COLUMN = 5;
        static final int SHAPES = 6;
        static final int RING = 1;
        static final int BOTH = 2;
        private static final int[] SIDE_STEPS = {1, 0, -1, 0, 0, 1, 0, -1};
        private static final int[] SLANT_STEPS = {1, 1, 1, -1, -1, 1, -1, -1};
        private static final int[] LEAP_STEPS = {1, 2, 1, -2, -1, 2, -1, -2, 2, 1, 2, -1, -2, 1, -2, -1};

        int lamps = 0;
        int colours = 2;
        int columns = 0;
        int rows = 0;
        int edges = NONE;
        final int[][] amounts = new int[MOST_LAMPS][MOST_LAMPS];
        final boolean[] jammed = new boolean[MOST_LAMPS];
        /** All that clauses of one shape step by, together; so their order can't matter. */
        final int[] shapes = new int[SHAPES];
        final int[][] wires = new int[MOST_LAMPS][MOST_LAMPS];

        void clear() {
            lamps = 0;
            colours = 2;
            columns = 0;
            rows = 0;
            edges = NONE;
            Arrays.fill(shapes, 0);
            for (int i = 0; i < MOST_LAMPS; i++) {
                Arrays.fill(amounts[i], 0);
                Arrays.fill(wires[i], 0);
                jammed[i] = false;
            }
        }

        boolean isNet() {
            return edges == NONE;
        }

        int jammedCount() {
            int many = 0;
            for (int button = 0; button < lamps; button++) {
                if (jammed[button]) {
                    many++;
                }
            }
            return many;
        }

        void addAmount(int button, int lamp, int by) {
            amounts[button][lamp] = mod(amounts[button][lamp] + by, colours);
        }

        void addShape(int shape, int by) {
            shapes[shape] = mod(shapes[shape] + by, colours);
        }

        void addWire(int one, int other) {
            wires[one][other]++;
            wires[other][one]++;
        }

        /** The shapes become amounts, when all clauses are known. */
        void layShapes() {
            for (int button = 0; button < lamps; button++) {
                addAmount(button, button, shapes[SELF]);
                if (isNet()) {
                    layWires(button);
                } else {
                    laySteps(button, SIDE_STEPS, shapes[SIDE]);
                    laySteps(button, SLANT_STEPS, shapes[SLANT]);
                    laySteps(button, LEAP_STEPS, shapes[LEAP]);
                    layLines(button);
                }
            }
        }

        private void layWires(int button) {
            for (int lamp = 0; lamp < lamps; lamp++) {
                addAmount(button, lamp, wires[button][lamp] * shapes[SIDE]);
            }
        }

        private void laySteps(int button, int[] steps, int by) {
            if (by == 0 || columns < 1) {
                return;
            }
            int x = button % columns;
            int y = button / columns;
            for (int i = 0; i + 1 < steps.length; i += 2) {
                int column = within(x + steps[i], columns, edges >= RING);
                int row = within(y + steps[i + 1], rows, edges >= BOTH);
                if (column != NONE && row != NONE) {
                    addAmount(button, column + columns * row, by);
                }
            }
        }

        private void layLines(int button) {
            if (columns < 1) {
                return;
            }
            for (int lamp = 0; lamp < lamps; lamp++) {
                if (lamp / columns == button / columns) {
                    addAmount(button, lamp, shapes[ROW]);
                }
                if (lamp % columns == button % columns) {
                    addAmount(button, lamp, shapes[COLUMN]);
                }
            }
        }

        private static int within(int place, int size, boolean ring) {
            if (ring && size > 0) {
                return Math.floorMod(place, size);
            }
            return place >= 0 && place < size ? place : NONE;
        }

        void step(int[] row, int button, int often) {
            addTimes(row, amounts[button], often, colours, lamps);
        }

        /** One pulse of a row; the other row is room for what was before. */
        void beat(int[] row, int[] before) {
            System.arraycopy(row, 0, before, 0, MOST_LAMPS);
            for (int button = 0; button < lamps; button++) {
                if (!jammed[button]) {
                    step(row, button, before[button]);
                }
            }
        }

        boolean doAlike(int one, int other) {
            for (int lamp = 0; lamp < lamps; lamp++) {
                if (amounts[one][lamp] != amounts[other][lamp]) {
                    return false;
                }
            }
            return true;
        }
    }

    /** The tape, and how its text is read token by token up to the first fault. */
    private static final class Reader {
        private static final int TAPE = 500;
        private static final int MOST_CLAUSES = 40;
        private static final int MOST_SIDE = 6;
        private static final int MOST_DIGITS = 3;

        private static final int AT_END = 0;
        private static final int WORD = 1;
        private static final int NUMBER = 2;
        private static final int SIGN = 3;
        private static final int NO_TOKEN = 4;
        private static final int BLANK = 5;

        private static final int CANT_STAND = 1;
        private static final int TOO_MUCH = 2;
        private static final int OTHER_KIND = 3;
        private static final int NO_SUCH_LAMP = 4;
        private static final int SAME_LAMP = 5;

        private static final int WIRE = Wiring.SHAPES;
        private static final int BUTTON = WIRE + 1;
        private static final int JAM = WIRE + 2;

        private final byte[] tape = new byte[TAPE];
        private final int[] kinds = new int[TAPE];
        int fed = 0;
        int place = NONE;
        private int wrong = 0;
        private int length = 0;
        private int start = 0;
        private int end = 0;
        private int kind = AT_END;
        private int number = 0;

        boolean hasRoom(int bytes) {
            return fed + bytes <= TAPE;
        }

        void put(int four) {
            if (!hasRoom(4)) {
                return;
            }
            for (int shift = 24; shift >= 0; shift -= 8) {
                tape[fed] = (byte) (four >>> shift);
                fed++;
            }
        }

        /** The fault's number, or 0; the tape is used up by it. */
        int read(int bytes, Wiring into) {
            length = Math.min(Math.max(bytes, 0), fed);
            fed = 0;
            wrong = 0;
            place = NONE;
            end = 0;
            into.clear();
            findKinds();
            advance();
            boolean good = readHead(into);
            for (int before = 0; good && kind != AT_END && before <= MOST_CLAUSES; before++) {
                good = readClause(into, before);
            }
            if (good) {
                into.layShapes();
            }
            return wrong;
        }

        private boolean readHead(Wiring into) {
            return readWord("colours") && readColours(into) && readSign() && readKind(into) && readSign();
        }

        private boolean readColours(Wiring into) {
            int at = start;
            if (!readNumber(2, MOST_COLOURS, TOO_MUCH)) {
                return false;
            }
            if (number == 4) {
                return failAt(TOO_MUCH, at);
            }
            into.colours = number;
            return true;
        }

        private boolean readKind(Wiring into) {
            if (isWord("net")) {
                advance();
                if (!readNumber(1, MOST_LAMPS, TOO_MUCH)) {
                    return false;
                }
                into.lamps = number;
                return true;
            }
            return readWord("board") && readSides(into) && readEdges(into);
        }

        private boolean readSides(Wiring into) {
            if (!readNumber(1, MOST_SIDE, TOO_MUCH)) {
                return false;
            }
            into.columns = number;
            if (!readNumber(1, MOST_SIDE, TOO_MUCH)) {
                return false;
            }
            into.rows = number;
            into.lamps = into.columns * into.rows;
            return true;
        }

        private boolean readEdges(Wiring into) {
            into.edges = 0;
            if (isWord("ring")) {
                into.edges = Wiring.RING;
                advance();
            } else if (isWord("both")) {
                into.edges = Wiring.BOTH;
                advance();
            }
            return true;
        }

        private boolean readClause(Wiring into, int before) {
            int clause = clauseHere();
            if (clause == NONE) {
                return failAt(CANT_STAND, start);
            }
            if (before >= MOST_CLAUSES) {
                return failAt(TOO_MUCH, start);
            }
            if (!suits(clause, into.isNet())) {
                return failAt(OTHER_KIND, start);
            }
            advance();
            switch (clause) {
                case WIRE:
                    return readWire(into) && readSign();
                case BUTTON:
                    return readButton(into) && readSign();
                case JAM:
                    return readJam(into) && readSign();
                default:
                    return readShape(clause, into) && readSign();
            }
        }

        private int clauseHere() {
            if (isWord("self")) {
                return Wiring.SELF;
            }
            if (isWord("side")) {
                return Wiring.SIDE;
            }
            if (isWord("slant")) {
                return Wiring.SLANT;
            }
            if (isWord("leap")) {
                return Wiring.LEAP;
            }
            if (isWord("row")) {
                return Wiring.ROW;
            }
            if (isWord("column")) {
                return Wiring.COLUMN;
            }
            if (isWord("wire")) {
                return WIRE;
            }
            if (isWord("button")) {
                return BUTTON;
            }
            return isWord("jam") ? JAM : NONE;
        }

        private static boolean suits(int clause, boolean net) {
            if (clause == WIRE) {
                return net;
            }
            return !net || clause <= Wiring.SIDE || clause > WIRE;
        }

        private boolean readShape(int shape, Wiring into) {
            if (!readBy(into)) {
                return false;
            }
            into.addShape(shape, number);
            return true;
        }

        private boolean readWire(Wiring into) {
            if (!readLamp(into)) {
                return false;
            }
            int one = number;
            int at = start;
            if (!readLamp(into)) {
                return false;
            }
            if (number == one) {
                return failAt(SAME_LAMP, at);
            }
            into.addWire(one, number);
            return true;
        }

        private boolean readButton(Wiring into) {
            if (!readLamp(into)) {
                return false;
            }
            int button = number;
            if (!readWord("at") || !readLamp(into)) {
                return false;
            }
            int lamp = number;
            if (!readBy(into)) {
                return false;
            }
            into.addAmount(button, lamp, number);
            return true;
        }

        private boolean readJam(Wiring into) {
            if (!readLamp(into)) {
                return false;
            }
            into.jammed[number] = true;
            return true;
        }

        private boolean readLamp(Wiring into) {
            return readNumber(0, into.lamps - 1, NO_SUCH_LAMP);
        }

        /** The number behind 'by', or 1 without. */
        private boolean readBy(Wiring into) {
            if (isWord("by")) {
                advance();
                return readNumber(1, into.colours - 1, TOO_MUCH);
            }
            number = 1;
            return true;
        }

        private boolean readWord(String word) {
            if (!isWord(word)) {
                return failAt(CANT_STAND, start);
            }
            advance();
            return true;
        }

        private boolean readSign() {
            if (kind != SIGN) {
                return failAt(CANT_STAND, start);
            }
            advance();
            return true;
        }

        private boolean readNumber(int least, int most, int otherwise) {
            if (kind != NUMBER) {
                return failAt(CANT_STAND, start);
            }
            if (end - start > MOST_DIGITS) {
                return failAt(TOO_MUCH, start);
            }
            int value = 0;
            for (int i = start; i < end; i++) {
                value = value * 10 + tape[i] - '0';
            }
            if (value < least || value > most) {
                return failAt(otherwise, start);
            }
            number = value;
            advance();
            return true;
        }

        private boolean failAt(int which, int at) {
            wrong = which;
            place = at;
            return false;
        }

        private boolean isWord(String word) {
            if (kind != WORD || end - start != word.length()) {
                return false;
            }
            for (int i = 0; i < word.length(); i++) {
                if (tape[start + i] != word.charAt(i)) {
                    return false;
                }
            }
            return true;
        }

        private void advance() {
            start = end;
            while (start < length && kinds[start] == BLANK) {
                start++;
            }
            kind = start < length ? kinds[start] : AT_END;
            end = start < length ? start + 1 : length;
            if (kind == WORD || kind == NUMBER) {
                while (end < length && kinds[end] == kind) {
                    end++;
                }
            }
        }

        private void findKinds() {
            for (int i = 0; i < length; i++) {
                kinds[i] = kindOf(tape[i]);
            }
        }

        private static int kindOf(byte sign) {
            if (sign >= 'a' && sign <= 'z') {
                return WORD;
            }
            if (sign >= '0' && sign <= '9') {
                return NUMBER;
            }
            if (sign == ' ' || sign == '\n') {
                return BLANK;
            }
            return sign == ';' ? SIGN : NO_TOKEN;
        }
    }

    /** The latest presses, the oldest of which are forgotten. */
    private static final class Presses {
        private static final int MOST = 100;

        private final int[] buttons = new int[MOST];
        private int next = 0;
        int size = 0;

        void clear() {
            size = 0;
        }

        void add(int button) {
            buttons[next] = button;
            next = (next + 1) % MOST;
            if (size < MOST) {
                size++;
            }
        }

        int removeLatest() {
            if (size == 0) {
                return NONE;
            }
            size--;
            next = (next + MOST - 1) % MOST;
            return buttons[next];
        }
    }

    /** Vectors let in one by one: which are sums of those before (tied), which are not (own), and by what numbers. */
    private static final class Span {
        private final int[][] reduced = new int[MOST_LAMPS][MOST_LAMPS];
        private final int[] pivot = new int[MOST_LAMPS];
        /** Of a tied vector: the numbers, 1 of itself, by which vectors together are 0. */
        final int[][] mix = new int[MOST_LAMPS][MOST_LAMPS];
        final int[] own = new int[MOST_LAMPS];
        final int[] tied = new int[MOST_LAMPS];
        int ownCount = 0;
        int tiedCount = 0;
        private int width = 0;
        private int colours = 2;

        void begin(int lamps, int q) {
            width = lamps;
            colours = q;
            ownCount = 0;
            tiedCount = 0;
        }

        void admit(int id, int[] vector) {
            System.arraycopy(vector, 0, reduced[id], 0, MOST_LAMPS);
            Arrays.fill(mix[id], 0);
            mix[id][id] = 1;
            for (int i = 0; i < ownCount; i++) {
                int base = own[i];
                int often = colours - reduced[id][pivot[base]];
                if (often < colours) {
                    addTimes(reduced[id], reduced[base], often, colours, width);
                    addTimes(mix[id], mix[base], often, colours, width);
                }
            }
            pivot[id] = firstUnlike0(reduced[id]);
            if (pivot[id] == NONE) {
                tied[tiedCount] = id;
                tiedCount++;
            } else {
                own[ownCount] = id;
                ownCount++;
                makePivotOne(id);
            }
        }

        private void makePivotOne(int id) {
            int often = inverse(reduced[id][pivot[id]], colours);
            for (int i = 0; i < width; i++) {
                reduced[id][i] = mod(reduced[id][i] * often, colours);
                mix[id][i] = mod(mix[id][i] * often, colours);
            }
        }

        private int firstUnlike0(int[] vector) {
            for (int i = 0; i < width; i++) {
                if (vector[i] != 0) {
                    return i;
                }
            }
            return NONE;
        }

        /** Whether a vector is a sum of own ones, and how often each; the vector is used up. */
        boolean express(int[] vector, int[] numbers) {
            Arrays.fill(numbers, 0);
            for (int i = 0; i < ownCount; i++) {
                int base = own[i];
                int often = vector[pivot[base]];
                if (often != 0) {
                    addTimes(vector, reduced[base], colours - often, colours, width);
                    addTimes(numbers, mix[base], often, colours, width);
                }
            }
            return firstUnlike0(vector) == NONE;
        }

        boolean isInSomeTie(int id) {
            for (int i = 0; i < tiedCount; i++) {
                if (mix[tied[i]][id] != 0) {
                    return true;
                }
            }
            return false;
        }

        /** How often the own ones make a vector that was let in, in the order of own. */
        void ownNumbers(int id, int[] numbers) {
            for (int i = 0; i < ownCount; i++) {
                if (pivot[id] == NONE) {
                    numbers[i] = mod(-mix[id][own[i]], colours);
                } else {
                    numbers[i] = own[i] == id ? 1 : 0;
                }
            }
        }
    }

    /** What follows from amounts and jams alone, found when it is first asked for. */
    private static final class Algebra {
        private final Span buttons = new Span();
        private final Span lamps = new Span();
        /** Buttons from the last to the first: a row with none of the tied ones is the first as a row. */
        private final Span late = new Span();
        final Span topSpan = new Span();
        private boolean buttonsFresh;
        private boolean lampsFresh;
        private boolean lateFresh;
        boolean needsFresh;
        /** How many differences need so many presses; none needs more than 4 of each of its own buttons. */
        final int[] needs = new int[Walk.LEVELS];
        int mostNeeded;
        private final int[] scratch = new int[MOST_LAMPS];

        void forget() {
            buttonsFresh = false;
            lampsFresh = false;
            lateFresh = false;
            needsFresh = false;
        }

        Span buttonSpan(Wiring wiring) {
            if (!buttonsFresh) {
                buttons.begin(wiring.lamps, wiring.colours);
                for (int button = 0; button < wiring.lamps; button++) {
                    if (!wiring.jammed[button]) {
                        buttons.admit(button, wiring.amounts[button]);
                    }
                }
                buttonsFresh = true;
            }
            return buttons;
        }

        Span lateSpan(Wiring wiring) {
            if (!lateFresh) {
                late.begin(wiring.lamps, wiring.colours);
                for (int button = wiring.lamps - 1; button >= 0; button--) {
                    if (!wiring.jammed[button]) {
                        late.admit(button, wiring.amounts[button]);
                    }
                }
                lateFresh = true;
            }
            return late;
        }

        Span lampSpan(Wiring wiring) {
            if (!lampsFresh) {
                lamps.begin(wiring.lamps, wiring.colours);
                Arrays.fill(scratch, 0);
                for (int lamp = 0; lamp < wiring.lamps; lamp++) {
                    for (int button = 0; button < wiring.lamps; button++) {
                        scratch[button] = wiring.jammed[button] ? 0 : wiring.amounts[button][lamp];
                    }
                    lamps.admit(lamp, scratch);
                }
                lampsFresh = true;
            }
            return lamps;
        }

        void findNeeds(Wiring wiring, Walk walk) {
            Span span = buttonSpan(wiring);
            walk.begin(span.ownCount, wiring.colours);
            for (int button = 0; button < wiring.lamps; button++) {
                if (!wiring.jammed[button]) {
                    span.ownNumbers(button, scratch);
                    walk.addMove(button, scratch, NONE);
                }
            }
            walk.go(0, NONE);
            System.arraycopy(walk.perLevel, 0, needs, 0, Walk.LEVELS);
            mostNeeded = walk.lastLevel;
            needsFresh = true;
        }
    }

    /** The cheapest of rows that free places and steps make, of like ones the first as a row. */
    private static final class Search {
        private static final int MOST_FREE = 14;
        private static final int FORBIDDEN = 1000;

        private final int[] freeAt = new int[MOST_FREE];
        private final int[][] steps = new int[MOST_FREE][MOST_LAMPS];
        private final int[] costs = new int[MOST_LAMPS * MOST_COLOURS];
        private final int[] row = new int[MOST_LAMPS];
        final int[] best = new int[MOST_LAMPS];
        private int free = 0;
        private int width = 0;
        private int colours = 2;
        private int least = FORBIDDEN;

        /** The row given has 0 at all free places. */
        void begin(int lamps, int q, int[] first) {
            width = lamps;
            colours = q;
            free = 0;
            System.arraycopy(first, 0, row, 0, MOST_LAMPS);
        }

        void countPresses(int kind) {
            for (int place = 0; place < width; place++) {
                for (int value = 0; value < colours; value++) {
                    int cost = kind == 1 ? Math.min(value, 1) : value;
                    costs[place * MOST_COLOURS + value] = kind == 2 && value > 1 ? FORBIDDEN : cost;
                }
            }
        }

        void countUnlike(int[] goal) {
            for (int place = 0; place < width; place++) {
                for (int value = 0; value < colours; value++) {
                    costs[place * MOST_COLOURS + value] = value == goal[place] ? 0 : 1;
                }
            }
        }

        /** Free places come from the first to the last; a step is 1 there, 0 before and at the other free ones. */
        void addFree(int place, int[] step) {
            if (free >= MOST_FREE) {
                return;
            }
            freeAt[free] = place;
            System.arraycopy(step, 0, steps[free], 0, MOST_LAMPS);
            free++;
        }

        /** The least cost, or NONE where every row is forbidden. */
        int run() {
            least = FORBIDDEN;
            int cost = costOf(0, placeOfFree(0));
            if (cost < least) {
                seek(this, 0, cost);
            }
            return least < FORBIDDEN ? least : NONE;
        }

        private int placeOfFree(int level) {
            return level < free ? freeAt[level] : width;
        }

        private int costOf(int from, int to) {
            int cost = 0;
            for (int place = from; place < to; place++) {
                cost += costs[place * MOST_COLOURS + row[place]];
            }
            return cost;
        }

        // Places up to the next free one stand fast at each level, so rows come in order and dear ones are cut early.
        private static void seek(Search in, int level, int cost) {
            if (level >= in.free) {
                in.least = cost;
                System.arraycopy(in.row, 0, in.best, 0, MOST_LAMPS);
                return;
            }
            int from = in.placeOfFree(level);
            int to = in.placeOfFree(level + 1);
            for (int value = 0; value < in.colours; value++) {
                int together = cost + in.costOf(from, to);
                if (together < in.least) {
                    seek(in, level + 1, together);
                }
                in.stepRow(level, from);
            }
        }

        private void stepRow(int level, int from) {
            int[] step = steps[level];
            for (int place = from; place < width; place++) {
                if (step[place] != 0) {
                    int value = row[place] + step[place];
                    row[place] = value >= colours ? value - colours : value;
                }
            }
        }
    }

    /** All that moves come to from a start, level by level; a state is a number, a digit of it a lamp. */
    private static final class Walk {
        static final int LEVELS = 64;
        private static final int MOST_CELLS = 7200;
        /** More than 0 with every first move, NONE (at the start) among them. */
        private static final int MARKED = 2;

        final int[] mark = new int[MOST_LIT_STATES];
        private final int[] queue = new int[MOST_LIT_STATES];
        /** Of each move: what the lower digits of a number become, behind it what the higher ones do. */
        private final int[] cells = new int[MOST_CELLS];
        private final int[] names = new int[MOST_LAMPS];
        private int moves = 0;
        private int places = 0;
        private int colours = 2;
        private int lowPlaces = 0;
        private int lowSize = 1;
        private int highSize = 1;
        private int target = NONE;
        final int[] perLevel = new int[LEVELS];
        int lastLevel = 0;
        int total = 0;
        int targetLevel = NONE;
        int targetFirst = NONE;

        void begin(int digits, int q) {
            moves = 0;
            places = digits;
            colours = q;
            lowPlaces = (digits + 1) / 2;
            lowSize = power(lowPlaces);
            highSize = power(places - lowPlaces);
        }

        private int power(int exponent) {
            int product = 1;
            for (int i = 0; i < exponent; i++) {
                product *= colours;
            }
            return product;
        }

        int codeOf(int[] row) {
            int code = 0;
            for (int place = places - 1; place >= 0; place--) {
                code = code * colours + row[place];
            }
            return code;
        }

        /** A move that may be made while the digit at a place isn't 0 (always with NONE). */
        void addMove(int name, int[] steps, int litPlace) {
            int at = moves * (lowSize + highSize);
            if (moves >= MOST_LAMPS || at + lowSize + highSize > MOST_CELLS) {
                return;
            }
            names[moves] = name;
            moves++;
            for (int code = 0; code < lowSize; code++) {
                cells[at + code] = moved(code, 0, lowPlaces, steps, litPlace);
            }
            for (int code = 0; code < highSize; code++) {
                int high = moved(code, lowPlaces, places, steps, litPlace);
                cells[at + lowSize + code] = high == NONE ? NONE : high * lowSize;
            }
        }

        private int moved(int code, int from, int to, int[] steps, int litPlace) {
            if (colours < 2) {
                return NONE;
            }
            int rest = code;
            int weight = 1;
            int result = 0;
            for (int place = from; place < to; place++) {
                int digit = rest % colours;
                if (place == litPlace && digit == 0) {
                    return NONE;
                }
                result += mod(digit + steps[place], colours) * weight;
                rest /= colours;
                weight *= colours;
            }
            return result;
        }

        void go(int start, int wanted) {
            Arrays.fill(mark, 0);
            Arrays.fill(perLevel, 0);
            target = wanted;
            targetLevel = NONE;
            targetFirst = NONE;
            total = 0;
            lastLevel = 0;
            comeTo(start, NONE, 0);
            int head = 0;
            for (int level = 0; level < MOST_LIT_STATES && head < total; level++) {
                int end = total;
                lastLevel = level;
                if (level < LEVELS) {
                    perLevel[level] = end - head;
                }
                while (head < end) {
                    expand(queue[head], level);
                    head++;
                }
            }
        }

        // Moves come in order, and a level stands in the order of its first moves: the least first move comes first.
        private void expand(int code, int level) {
            if (lowSize < 1) {
                return;
            }
            int low = code % lowSize;
            int high = lowSize + code / lowSize;
            int size = lowSize + highSize;
            int first = mark[code] - MARKED;
            for (int move = 0; move < moves; move++) {
                int lowCell = cells[move * size + low];
                int highCell = cells[move * size + high];
                if (lowCell != NONE && highCell != NONE) {
                    comeTo(lowCell + highCell, first == NONE ? names[move] : first, level + 1);
                }
            }
        }

        private void comeTo(int code, int first, int level) {
            if (code < 0 || code >= MOST_LIT_STATES || mark[code] != 0) {
                return;
            }
            mark[code] = first + MARKED;
            queue[total] = code;
            total++;
            if (code == target) {
                targetLevel = level;
                targetFirst = first;
            }
        }
    }

    /** How a state comes round by pulses: every state is packed into two numbers and sought among those before. */
    private static final class Cycle {
        private static final int MOST = 300;
        private static final int HALF = MOST_LAMPS / 2;

        private final long[] low = new long[MOST + 1];
        private final long[] high = new long[MOST + 1];
        private final int[] row = new int[MOST_LAMPS];
        private final int[] before = new int[MOST_LAMPS];
        int after = NONE;
        int every = NONE;

        void find(Wiring wiring, int[] state) {
            after = NONE;
            every = NONE;
            System.arraycopy(state, 0, row, 0, MOST_LAMPS);
            for (int made = 0; made <= MOST; made++) {
                low[made] = packed(0);
                high[made] = packed(HALF);
                int like = likeBefore(made);
                if (like != NONE) {
                    after = like;
                    every = made - like;
                    return;
                }
                wiring.beat(row, before);
            }
        }

        private long packed(int from) {
            long number = 0;
            for (int i = from; i < from + HALF; i++) {
                number = number * MOST_COLOURS + row[i];
            }
            return number;
        }

        private int likeBefore(int made) {
            for (int i = 0; i < made; i++) {
                if (low[i] == low[made] && high[i] == high[made]) {
                    return i;
                }
            }
            return NONE;
        }
    }
}

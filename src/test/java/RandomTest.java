import java.util.Random;

/** Random runs of calls on small halls, every answer against the plain model's; WideTest has them on large ones. */
public final class RandomTest {
    private static final String[] SHAPES = {"self", "side", "slant", "leap", "row", "column"};
    private static final int[] WILD = {-1, -2, 4, 7, 36, 99, Integer.MAX_VALUE, Integer.MIN_VALUE};

    private final Random random;
    private final Check check;
    private final LampHall x = new LampHall();
    private final Model model;
    private final boolean wide;
    private final StringBuilder calls = new StringBuilder();

    private RandomTest(long seed, Check check, boolean wide) {
        random = new Random(seed);
        this.check = check;
        this.wide = wide;
        model = wide ? new WideModel() : new Model();
    }

    public static void main(String[] args) {
        runAll(new Check("RandomTest"), args, 1500, false);
    }

    /** As many runs from that seed on as the arguments say. */
    static void runAll(Check check, String[] args, int otherwise, boolean wide) {
        int runs = args.length > 0 ? Integer.parseInt(args[0]) : otherwise;
        long from = args.length > 1 ? Long.parseLong(args[1]) : 0;
        for (long seed = from; seed < from + runs; seed++) {
            new RandomTest(seed, check, wide).run();
        }
        check.end();
    }

    private void run() {
        tell(!wide && random.nextInt(4) == 0);
        for (int i = 0; i < 60; i++) {
            if (random.nextInt(20) == 0) {
                tell(random.nextBoolean());
            }
            if (wide && random.nextInt(4) == 0) {
                wishWhatLeads();
            }
            call(random.nextInt(31));
        }
    }

    private void both(String name, Check.Call one, Check.Call other) {
        calls.append(name).append(", ");
        check.due(calls.toString(), Check.answer(one), Check.answer(other));
    }

    private int number(int bound) {
        return random.nextInt(12) == 0 ? WILD[random.nextInt(WILD.length)] : random.nextInt(Math.max(1, bound));
    }

    private void tell(boolean faulty) {
        byte[] bytes = text(faulty).getBytes(java.nio.charset.StandardCharsets.ISO_8859_1);
        for (int at = 0; at < bytes.length; at += 20) {
            int[] five = new int[5];
            for (int i = 0; i < 5; i++) {
                five[i] = Check.four(bytes, at + 4 * i);
            }
            both("feed", () -> x.feed(five[0], five[1], five[2], five[3], five[4]), () -> model.feed(five));
        }
        int length = random.nextInt(30) == 0 ? bytes.length + random.nextInt(40) - 20 : bytes.length;
        both("hall " + new String(bytes, 0, bytes.length, java.nio.charset.StandardCharsets.ISO_8859_1), () -> x.hall(length), () -> model.hall(length));
        both("fault", x::fault, () -> model.place);
    }

    private String text(boolean faulty) {
        int q = new int[] {2, 3, 5}[random.nextInt(3)];
        int most = wide ? 36 : q == 2 ? 9 : q == 3 ? 6 : 4;
        StringBuilder text = new StringBuilder("colours ").append(q).append(';');
        boolean net = random.nextInt(3) == 0;
        int n;
        if (net) {
            n = 1 + random.nextInt(most);
            text.append("net ").append(n).append(';');
        } else {
            int w = 1 + random.nextInt(Math.min(6, most));
            int h = 1 + random.nextInt(Math.min(6, most / w));
            n = w * h;
            text.append("board ").append(w).append(' ').append(h);
            text.append(new String[] {"", " ring", " both"}[random.nextInt(3)]).append(';');
        }
        int clauses = random.nextInt(faulty && random.nextInt(6) == 0 ? 50 : 8);
        if (wide) {
            text.append(SHAPES[random.nextInt(net ? 1 : SHAPES.length)]).append(';');
        }
        for (int i = 0; i < clauses; i++) {
            clause(text, net, n, q);
        }
        if (wide) {
            jams(text, clauses, n);
        }
        return faulty ? spoilt(text) : text.toString();
    }

    /** So many that few are left of large halls, too. */
    private void jams(StringBuilder text, int clauses, int n) {
        int most = Math.min(random.nextInt(n), 39 - clauses);
        for (int i = 0; i < most; i++) {
            text.append("jam ").append(random.nextInt(n)).append(';');
        }
    }

    /** What is there becomes the wish, and presses lead away from it. */
    private void wishWhatLeads() {
        both("keep 3", () -> x.keep(3), () -> model.keep(3));
        both("take 3 1", () -> x.take(3, 1), () -> model.take(3, 1));
        for (int i = random.nextInt(30); i > 0 && model.n > 0; i--) {
            int button = random.nextInt(model.n);
            both("press " + button, () -> x.press(button), () -> model.press(button));
        }
    }

    private void clause(StringBuilder text, boolean net, int n, int q) {
        int kind = random.nextInt(10);
        if (kind < 5) {
            text.append(SHAPES[random.nextInt(net ? 2 : SHAPES.length)]);
            by(text, q);
        } else if (kind < 7 && net && n > 1) {
            int one = random.nextInt(n);
            text.append("wire ").append(one).append(' ').append((one + 1 + random.nextInt(n - 1)) % n);
        } else if (kind < 9) {
            text.append("button ").append(random.nextInt(n)).append(" at ").append(random.nextInt(n));
            by(text, q);
        } else {
            text.append("jam ").append(random.nextInt(n));
        }
        text.append(';');
    }

    private void by(StringBuilder text, int q) {
        if (random.nextBoolean()) {
            text.append(" by ").append(1 + random.nextInt(q - 1));
        }
    }

    private String spoilt(StringBuilder text) {
        String[] bits = {" ", "\n", ";", "0", "9", "0000", "1234", "a", "A", "\t", "wire 0 0;", "wire 0 1;", "slant;",
            "by ", "by 5", "at", "self", "jam 8;", "\u00e9", "\u0000", "ring", "button 0 at 0;", "007"};
        for (int i = random.nextInt(3); i >= 0 && text.length() > 0; i--) {
            int at = random.nextInt(text.length());
            if (random.nextBoolean()) {
                text.deleteCharAt(at);
            } else if (random.nextBoolean()) {
                text.insert(at, bits[random.nextInt(bits.length)]);
            } else {
                int sign = text.lastIndexOf(";", at) + 1;
                text.insert(sign, bits[random.nextInt(bits.length)]);
            }
        }
        return text.toString();
    }

    private void call(int which) {
        int n = model.n;
        int a = number(n);
        int b = number(n);
        int two = number(2);
        int three = number(3);
        switch (which) {
            case 0 -> both("count " + three, () -> x.count(three), () -> model.count(three));
            case 1 -> both("count 5", () -> x.count(5), () -> model.count(5));
            case 2 -> both("amount " + a + " " + b, () -> x.amount(a, b), () -> model.amount(a, b));
            case 3 -> both("colour " + a + " " + two, () -> x.colour(a, two), () -> model.colour(a, two));
            case 4, 5 -> {
                int c = number(model.q);
                both("set " + a + " " + two + " " + c, () -> x.set(a, two, c), () -> model.set(a, two, c));
            }
            case 6 -> both("fill " + two + " " + three, () -> x.fill(two, three), () -> model.fill(two, three));
            case 7 -> {
                int seed = random.nextInt();
                both("draw " + seed, () -> {
                    x.draw(seed);
                    return 0;
                }, () -> {
                    model.draw(seed);
                    return 0;
                });
            }
            case 8 -> {
                boolean is = random.nextInt(3) == 0;
                both("jam " + a + is, () -> x.jam(a, is), () -> model.jam(a, is));
            }
            case 9, 10 -> both("press " + a, () -> x.press(a), () -> model.press(a));
            case 11 -> both("back", x::back, model::back);
            case 12 -> both("rank", x::rank, model::rank);
            case 13 -> {
                int i = random.nextInt(4) - 1;
                both("bound " + two + " " + i, () -> x.bound(two, i), () -> model.bound(two, i));
            }
            case 14 -> both("quiet " + three + " " + b, () -> x.quiet(three, b), () -> model.quiet(three, b));
            case 15 -> both("sum " + three + " " + b, () -> x.sum(three, b), () -> model.sum(three, b));
            case 16 -> both("why", x::why, model::why);
            case 17 -> {
                both("solve " + three, () -> x.solve(three), () -> model.solve(three));
                both("times", () -> Check.times(x), () -> model.row == null && model.n > 0 ? "NoSuchElementException" : digits(model.row));
            }
            case 18 -> both("times " + a, () -> x.times(a), () -> model.times(a));
            case 19 -> both("apply", x::apply, model::apply);
            case 20 -> both("needed " + two, () -> x.needed(two), () -> model.needed(two));
            case 21 -> {
                int k = random.nextInt(8) - 1;
                both("hard " + k, () -> x.hard(k), () -> model.hard(k));
            }
            case 22 -> {
                both("nearest", x::nearest, model::nearest);
                for (int lamp = 0; lamp < n; lamp++) {
                    int one = lamp;
                    both("near " + one, () -> x.near(one), () -> model.near(one));
                }
            }
            case 23 -> both("near " + a, () -> x.near(a), () -> model.near(a));
            case 24 -> both("chase", x::chase, model::chase);
            case 25 -> both("top", x::top, model::top);
            case 26 -> both("lit " + three, () -> x.lit(three), () -> model.lit(three));
            case 27 -> both("game", x::game, model::game);
            case 28 -> {
                int many = random.nextInt(8) == 0 ? 99 + random.nextInt(3) : number(4);
                both("pulse " + many, () -> x.pulse(many), () -> model.pulse(many));
            }
            case 29 -> both("round " + two, () -> x.round(two), () -> model.round(two));
            default -> others(a, two);
        }
        both("state", () -> Check.colours(x, 0), () -> digits(model.state));
        both("wish", () -> Check.colours(x, 1), () -> digits(model.wish));
    }

    private void others(int a, int two) {
        int slot = number(4);
        switch (random.nextInt(3)) {
            case 0 -> both("twin " + a, () -> x.twin(a), () -> model.twin(a));
            case 1 -> both("keep " + slot, () -> x.keep(slot), () -> model.keep(slot));
            default -> both("take " + slot + " " + two, () -> x.take(slot, two), () -> model.take(slot, two));
        }
    }

    private static String digits(java.util.List<Integer> row) {
        StringBuilder digits = new StringBuilder();
        if (row != null) {
            row.forEach(digits::append);
        }
        return digits.toString();
    }
}

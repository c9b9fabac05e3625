import java.util.Random;

/** EelClerk against the Model, by drawn runs of calls; the seeds are told, so that each run can be had again. */
public final class ModelTest {
    private final Random random;
    private final EelClerk x = new EelClerk();
    private final Model m = new Model();
    private final Checks checks;
    private final String name;
    private int calls = 0;

    private ModelTest(long seed, Checks checks) {
        // spread, as near seeds would begin alike
        this.random = new Random(seed * 0x9E3779B97F4A7C15L);
        this.checks = checks;
        this.name = "seed " + seed + ", call ";
    }

    public static void main(String[] args) {
        long first = args.length > 0 ? Long.parseLong(args[0]) : 1;
        long count = args.length > 1 ? Long.parseLong(args[1]) : 250;
        Checks checks = new Checks();
        for (long seed = first; seed < first + count && checks.allDue(); seed++) {
            new ModelTest(seed, checks).run();
        }
        checks.close("ModelTest");
    }

    private void due(String call, long got, long want) {
        calls++;
        checks.due(name + calls + ": " + call, got, want);
    }

    private void run() {
        int style = random.nextInt(4);
        int springs = style == 0 ? random.nextInt(3) : 2 + random.nextInt(8);
        for (int i = 0; i < springs; i++) {
            int level = random.nextInt(10);
            int mud = random.nextInt(10);
            due("spring", x.spring(level, mud), m.spring(level, mud));
        }
        int channels = springs < 2 ? 0 : random.nextInt(springs * (style == 1 ? 3 : 2));
        for (int i = 0; i < channels; i++) {
            channel(random.nextInt(springs), random.nextInt(springs), 1 + random.nextInt(style == 2 ? 3 : 50));
        }
        while (calls < 470 && checks.allDue()) {
            if (random.nextInt(3) == 0) {
                changeParish();
            } else if (random.nextInt(3) == 0) {
                text();
            } else {
                ask();
            }
        }
        for (int what = -1; what < 18 && calls < 510; what++) {
            due("count " + what, x.count(what), m.count(what));
        }
    }

    private int pick(int... from) {
        return from[random.nextInt(from.length)];
    }

    private int spring() {
        int n = Math.max(1, m.s.n());
        return random.nextInt(12) == 0 ? pick(-1, n, 9, 10, Integer.MAX_VALUE, Integer.MIN_VALUE) : random.nextInt(n);
    }

    private int near(int low, int high) {
        return random.nextInt(12) == 0 ? pick(low - 1, high + 1, Integer.MIN_VALUE, Integer.MAX_VALUE)
                : low + random.nextInt(high - low + 1);
    }

    private int set() {
        int n = m.s.n();
        return random.nextInt(12) == 0 ? pick(-1, 1 << n, 1 << 31, Integer.MAX_VALUE) : random.nextInt(1 << n);
    }

    private void channel(int one, int other, int far) {
        due("channel " + one + " " + other + " " + far, x.channel(one, other, far), m.channel(one, other, far));
    }

    private void changeParish() {
        int a = spring();
        int b = spring();
        switch (random.nextInt(20)) {
            case 0 -> {
                int level = near(0, 9);
                int mud = near(0, 9);
                due("spring " + level + " " + mud, x.spring(level, mud), m.spring(level, mud));
            }
            case 1 -> channel(a, b, near(0, 50));
            case 2 -> {
                int what = near(0, 2);
                int value = what == 0 ? pick(0, 5, 500, 995, 998, 999, 1000) : near(0, what == 1 ? 10 : 9);
                due("terms " + what + " " + value, x.terms(what, value), m.terms(what, value));
            }
            case 3, 4, 5 -> due("gate " + a + " " + b, x.gate(a, b), m.gate(a, b));
            case 6, 7 -> {
                int mud = near(0, 9);
                due("stir " + a + " " + mud, x.stir(a, mud), m.stir(a, mud));
            }
            case 8, 9 -> due("pass", x.pass(), m.pass());
            case 10, 11 -> due("swim " + a, x.swim(a), m.swim(a));
            case 12 -> {
                for (int i = random.nextInt(4); i >= 0; i--) {
                    due("undo", x.undo(), m.undo());
                }
            }
            case 13, 14 -> {
                int day = plausibleDay(a);
                due("heard " + a + " " + day, x.heard(a, day), m.heard(a, day));
            }
            case 15 -> {
                if (random.nextInt(3) == 0) {
                    due("forget", x.forget(), m.forget());
                }
            }
            case 16 -> {
                int k = near(0, 1);
                due("image " + k, x.image(k), m.image(k));
            }
            case 17 -> {
                int k = near(0, 1);
                if (random.nextInt(3) == 0) {
                    due("back " + k, x.back(k), m.back(k));
                }
            }
            case 18 -> {
                int law = near(-1, Math.max(0, m.s.laws.size() - 1));
                due("force " + law, x.force(law), m.force(law));
            }
            default -> {
                int seed = near(0, 1_000_000);
                int n = near(1, 60);
                due("years " + seed + " " + n, x.years(seed, n), m.years(seed, n));
            }
        }
        due("status", x.status(), m.status);
    }

    /** Mostly one on which a word from some spring can come, so that not all is impossible. */
    private int plausibleDay(int spring) {
        if (random.nextInt(4) == 0 || m.s.n() == 0) {
            return near(0, 999);
        }
        return Math.max(0, 20 + m.soon(random.nextInt(Math.min(2, m.s.n())), spring));
    }

    private void text() {
        boolean orders = random.nextInt(3) > 0;
        if (random.nextInt(8) == 0) {
            row();
            return;
        }
        Texts texts = new Texts(random, orders, Math.max(1, m.s.n()));
        String text = texts.text();
        feed(text);
        due("tape", x.count(7), m.count(7));
        if (orders) {
            due("orders " + text, x.orders(), m.orders());
            due("stopped of " + text, x.stopped(), m.stopped);
        } else {
            due("law " + text, x.law(), m.law());
        }
        due("fault of " + text, x.fault(), m.fault);
        due("status", x.status(), m.status);
        if (m.s.laws.size() > 0 && m.s.force == Model.NONE) {
            due("force", x.force(0), m.force(0));
        }
    }

    private void feed(String text) {
        if (text.isEmpty()) {
            return;
        }
        for (int place = 0; place < text.length(); place += 20) {
            int[] n = new int[5];
            for (int i = 0; i < 5; i++) {
                n[i] = Checks.four(text, place + 4 * i);
            }
            due("feed", x.feed(n[0], n[1], n[2], n[3], n[4]), m.feed(n));
        }
        int length = random.nextInt(30) == 0 ? near(0, 400) : Math.min(text.length(), m.tape.length());
        due("end " + length, x.end(length), m.end(length));
    }

    private void row() {
        StringBuilder row = new StringBuilder();
        int n = Math.max(1, m.s.n());
        for (int i = random.nextInt(24); i > 0; i--) {
            row.append((char) (i % 3 == 0 ? random.nextInt(55) : random.nextInt(20) == 0 ? 200 : random.nextInt(n)));
        }
        feed(row.toString());
        due("row", x.row(), m.row());
        due("bubbles", x.bubbles(), m.bubbles);
        due("status", x.status(), m.status);
    }

    private void ask() {
        int a = spring();
        int b = spring();
        switch (random.nextInt(20)) {
            case 0, 1 -> due("soon " + a + " " + b, x.soon(a, b), m.soon(a, b));
            case 2 -> {
                for (int i = -1; i < 5; i++) {
                    due("way " + a + " " + b + " " + i, x.way(a, b, i), m.way(a, b, i));
                }
            }
            case 3 -> due("never " + a, x.never(a), m.never(a));
            case 4 -> {
                int what = near(0, 1);
                due("centre " + what, x.centre(what), m.centre(what));
            }
            case 5, 6 -> {
                int set = set();
                int i = near(-1, 4);
                due("round " + set + " -1", x.round(set, -1), m.round(set, -1));
                due("round " + set + " " + i, x.round(set, i), m.round(set, i));
            }
            case 7, 8 -> {
                int what = near(0, 1);
                due("bound " + a + " " + b + " " + what, x.bound(a, b, what), m.bound(a, b, what));
            }
            case 9 -> {
                int set = set();
                due("share " + set + " " + a, x.share(set, a), m.share(set, a));
            }
            case 10, 11 -> {
                int k = near(0, 9);
                k = random.nextInt(3) > 0 ? Math.min(k, 2) : k;
                int i = near(0, 4);
                due("sea " + k, x.sea(k, -1), m.sea(k, -1));
                due("sea " + k + " " + i, x.sea(k, i), m.sea(k, i));
            }
            case 12 -> due("canBe", x.canBe(), m.canBe());
            case 13 -> due("since " + a, x.since(a), m.since(a));
            case 14 -> {
                int what = near(0, 1);
                due("listen " + what, x.listen(what), m.listen(what));
            }
            case 15 -> {
                int k = near(1, 20);
                int n = near(0, 99);
                due("few " + k + " " + n, x.few(k, n), m.few(k, n));
            }
            case 16 -> {
                int law = near(-1, 5);
                due("compare " + law + " " + a + " " + b, x.compare(law, a, b), m.compare(law, a, b));
            }
            case 17 -> {
                int what = near(0, 1);
                due("drawn " + a + " " + what, x.drawn(a, what), m.drawn(a, what));
            }
            case 18 -> {
                int what = near(0, 2);
                due("of " + a + " " + what, x.of(a, what), m.of(a, what));
            }
            default -> {
                int what = near(0, 4);
                due("between " + a + " " + b + " " + what, x.between(a, b, what), m.between(a, b, what));
            }
        }
    }
}

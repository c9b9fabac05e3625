import java.util.Random;

/** No call throws or fails to end, whatever is told it; the same calls give the same answers. */
public final class WildTest {
    private static final int[] EDGES = {Integer.MIN_VALUE, Integer.MIN_VALUE + 1, -400, -3, -2, -1, 0, 1, 2, 3, 4, 5, 6, 7, 8,
        9, 10, 11, 12, 15, 20, 31, 32, 50, 60, 99, 255, 256, 399, 400, 511, 512, 998, 999, 1000, 1000000, 1 << 30,
        Integer.MAX_VALUE - 1, Integer.MAX_VALUE};

    public static void main(String[] args) {
        Checks checks = new Checks();
        for (long seed = 1; seed <= 400; seed++) {
            checks.due("seed " + seed, run(seed), run(seed));
        }
        checks.close("WildTest");
    }

    private static long run(long seed) {
        Random random = new Random(seed * 0x9E3779B97F4A7C15L);
        EelClerk x = new EelClerk();
        long told = 0;
        int springs = random.nextInt(10);
        for (int i = 0; i < springs; i++) {
            x.spring(i, 9 - i);
        }
        for (int i = 0; i < springs * 4; i++) {
            x.channel(random.nextInt(9), random.nextInt(9), random.nextInt(51));
        }
        for (int call = 0; call < 400; call++) {
            told = told * 31 + call(x, random, random.nextInt(45));
        }
        return told;
    }

    private static int edge(Random random) {
        return random.nextInt(3) > 0 ? random.nextInt(10) : EDGES[random.nextInt(EDGES.length)];
    }

    private static long call(EelClerk x, Random random, int which) {
        int a = edge(random);
        int b = edge(random);
        int c = edge(random);
        switch (which) {
            case 0: return x.spring(a, b);
            case 1: return x.channel(a, b, c);
            case 2: return x.of(a, b);
            case 3: return x.between(a, b, c);
            case 4: return x.terms(a, b);
            case 5: return x.feed(random.nextInt(), random.nextInt(), a, b, c);
            case 6: return x.end(a);
            case 7: return x.row();
            case 8: return x.bubbles();
            case 9: return x.law();
            case 10: return x.orders();
            case 11: return x.fault();
            case 12: return x.stopped();
            case 13: return x.force(a);
            case 14: return x.swim(a);
            case 15: return x.gate(a, b);
            case 16: return x.stir(a, b);
            case 17: return x.pass();
            case 18: return x.undo();
            case 19: return x.soon(a, b);
            case 20: return x.way(a, b, c);
            case 21: return x.never(a);
            case 22: return x.centre(a);
            case 23: return x.round(random.nextInt(512), c);
            case 24: return x.bound(a, b, c);
            case 25: return x.share(a, b);
            case 26: return x.sea(a, b);
            case 27: return x.heard(a, b);
            case 28: return x.forget();
            case 29: return x.canBe();
            case 30: return x.since(a);
            case 31: return x.listen(a);
            case 32: return x.few(a, b);
            case 33: return x.compare(a, b, c);
            case 34: return x.years(a, b);
            case 35: return x.drawn(a, b);
            case 36: return x.image(a);
            case 37: return x.back(a);
            case 38: return x.count(a);
            case 39: return x.status();
            case 40: return Checks.law(x, new Texts(random, false, 9).text());
            case 41: return Checks.orders(x, new Texts(random, true, 9).text());
            case 42: return x.round(a, b);
            case 43: return x.sea(9, b);
            default: return x.force(0);
        }
    }
}

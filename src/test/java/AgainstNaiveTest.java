import java.util.Random;

/** Runs of 512 calls, always the same ones, on SeepingRock and on NaiveRock: they must answer alike. */
public final class AgainstNaiveTest {
    private static final int CALLS = 512;
    private static final int[] EDGES = {-1, Integer.MIN_VALUE, Integer.MAX_VALUE, -2, 5, 6, 60, 61, 120, 200, 201, 300};
    private static final long[] LONGS = {Long.MIN_VALUE, Long.MAX_VALUE, 1000000000L, 1000000001L, -1, 1L << 53,
        (1L << 24) + 1, (1L << 60) + (1L << 36) + 1, 0x80, 0x8000, 0x80000000L};

    private final Due due;
    private final Random random;
    private final int mostPores;
    private final int mostThroats;
    private final int spread;
    private final int runShare;
    private final SeepingRock x = new SeepingRock();
    private final NaiveRock y = new NaiveRock();
    private final String name;
    private int calls;

    private AgainstNaiveTest(Due due, int seed, boolean large) {
        this.due = due;
        random = new Random(seed);
        mostPores = large ? 40 + random.nextInt(81) : 2 + random.nextInt(13);
        mostThroats = large ? 60 + random.nextInt(241) : 1 + random.nextInt(30);
        spread = 1 + random.nextInt(random.nextBoolean() ? 4 : 40);
        runShare = 20 + random.nextInt(75);
        name = (large ? "large " : "small ") + seed + ", call ";
    }

    public static void main(String[] args) {
        Due due = new Due("AgainstNaiveTest");
        for (int seed = 0; seed < 600; seed++) {
            new AgainstNaiveTest(due, seed, false).go();
        }
        for (int seed = 0; seed < 24; seed++) {
            new AgainstNaiveTest(due, seed, true).go();
        }
        due.end();
    }

    private void go() {
        build();
        while (calls < CALLS) {
            if (random.nextInt(100) < runShare) {
                ask();
            } else {
                change();
            }
        }
    }

    private void same(String call, long got, long want) {
        calls++;
        due.is(name + calls + ": " + call, got, want);
    }

    private void build() {
        boolean many = random.nextBoolean();
        for (int p = 0; p < mostPores; p++) {
            int kind = random.nextInt(3) == 0 ? 0 : random.nextInt(5);
            same("pore", x.pore(kind), y.pore(kind));
        }
        for (int t = 0; t < mostThroats && calls < CALLS - 90; t++) {
            int a = random.nextInt(mostPores);
            int b = many ? random.nextInt(mostPores) : Math.min(mostPores - 1, a + 1 + random.nextInt(3));
            same("throat", x.throat(a, b), y.throat(a, b));
            if (mostThroats < 60) {
                int v = random.nextInt(spread);
                same("hinder", x.hinder(t, v), y.hinder(t, v));
            }
        }
        same("inlet", x.inlet(0, true), y.inlet(0, true));
        fillFromCore();
        boolean on = random.nextInt(4) > 0;
        same("trapping", x.trapping(on), y.trapping(on));
    }

    private void fillFromCore() {
        if (mostThroats < 60) {
            return;
        }
        same("core", x.core(1, 2, 60), y.core(1, 2, 60));
        for (int i = 0; i < 12; i++) {
            long v = random.nextInt(2000) - 40;
            same("cell", x.cell(1, i, v, 0), y.cell(1, i, v, 0));
        }
        for (int t = 0; t + 12 < mostThroats; t += 12) {
            same("pour", x.pour(1, 0, 12, t), y.pour(1, 0, 12, t));
        }
    }

    private boolean rarely() {
        return random.nextInt(12) == 0;
    }

    private int number(int bound) {
        return rarely() ? EDGES[random.nextInt(EDGES.length)] : random.nextInt(Math.max(1, bound));
    }

    private int aPore() {
        return number(mostPores + 1);
    }

    private int aThroat() {
        return number(mostThroats + 1);
    }

    private long aLong() {
        return rarely() ? LONGS[random.nextInt(LONGS.length)] : random.nextInt(4 * spread) - spread / 2;
    }

    /** Mostly calls that leave the RUN on. */
    private void ask() {
        int p = aPore();
        int q = aPore();
        int k = number(8);
        switch (random.nextInt(22)) {
            case 0: same("step", x.step(), y.step()); break;
            case 1: same("step", x.step(), y.step()); break;
            case 2: same("step", x.step(), y.step()); break;
            case 3: same("run", x.run(k), y.run(k)); break;
            case 4: same("undo", x.undo(k / 2), y.undo(k / 2)); break;
            case 5: everyMany(); break;
            case 6: same("opened", x.opened(k), y.opened(k)); break;
            case 7: everyNow(p); break;
            case 8: same("front", x.front(k), y.front(k)); break;
            case 9: everyLake(number(5)); break;
            case 10: same("through", x.through(), y.through()); break;
            case 11: same("worst", x.worst(p), y.worst(p)); break;
            case 12: same("way", x.way(p, k), y.way(p, k)); break;
            case 13: same("join", x.join(p, q), y.join(p, q)); break;
            case 14: same("tree", x.tree(k), y.tree(k)); break;
            case 15: tell(k); break;
            case 16: same("copy", x.copy(), y.copy()); break;
            case 17: same("check", x.check(), y.check()); break;
            case 18: askRock(p); break;
            case 19: cores(); break;
            case 20: cores(); break;
            default: same("begin", x.begin(), y.begin()); break;
        }
    }

    private void askRock(int p) {
        int t = aThroat();
        int what = number(5);
        same("about", x.about(t, what), y.about(t, what));
        same("of", x.of(p, what), y.of(p, what));
        same("ranked", x.ranked(t), y.ranked(t));
    }

    private void everyMany() {
        for (int what = -1; what < 10; what++) {
            same("many", x.many(what), y.many(what));
        }
    }

    private void everyNow(int p) {
        for (int what = -1; what < 5; what++) {
            same("now", x.now(p, what), y.now(p, what));
        }
    }

    private void everyLake(int l) {
        for (int what = -1; what < 5; what++) {
            same("lake", x.lake(l, what), y.lake(l, what));
        }
    }

    private void tell(int k) {
        int t = aThroat();
        switch (random.nextInt(4)) {
            case 0: same("alter", x.alter(k, t), y.alter(k, t)); break;
            case 1: if (rarely()) same("unclaim", x.unclaim(), y.unclaim()); break;
            default: same("claim", x.claim(t), y.claim(t)); break;
        }
    }

    private void cores() {
        int c = number(rarely() ? 7 : 2);
        int d = number(2);
        int i = number(6);
        int j = number(6);
        int k = number(rarely() ? 31 : 3);
        int n = number(4);
        long v = aLong();
        switch (random.nextInt(9)) {
            case 0: {
                int kind = number(random.nextBoolean() ? 6 : 5);
                int size = number(9);
                same("core", x.core(c, kind, size), y.core(c, kind, size));
                break;
            }
            case 1: same("wild", x.wild(c, i, k), y.wild(c, i, k)); break;
            case 2: same("splice", x.splice(c, j, d, i, n), y.splice(c, j, d, i, n)); break;
            case 3: same("splice", x.splice(c, j, c, i, n), y.splice(c, j, c, i, n)); break;
            case 4: if (rarely()) same("lose", x.lose(c), y.lose(c)); break;
            case 5: same("told", x.told(c, i), y.told(c, i)); break;
            default:
                same("cell", x.cell(c, i, v, k), y.cell(c, i, v, k));
                same("told", x.told(c, i), y.told(c, i));
                break;
        }
    }

    /** Calls that end the RUN, and mostly one that begins it again. */
    private void change() {
        int p = aPore();
        int q = aPore();
        int t = aThroat();
        boolean on = random.nextBoolean();
        switch (random.nextInt(9)) {
            case 0: if (rarely()) same("pore", x.pore(p % 7), y.pore(p % 7)); break;
            case 1: same("throat", x.throat(p, q), y.throat(p, q)); break;
            case 2: same("shut", x.shut(t, on), y.shut(t, on)); break;
            case 3: if (on || rarely()) same("inlet", x.inlet(p, !on), y.inlet(p, !on)); break;
            case 4: if (rarely()) same("trapping", x.trapping(on), y.trapping(on)); break;
            case 5: pour(t); break;
            default: {
                int v = rarely() ? number(1) : random.nextInt(spread);
                same("hinder", x.hinder(t, v), y.hinder(t, v));
                break;
            }
        }
        if (!rarely()) {
            same("begin", x.begin(), y.begin());
            int n = random.nextInt(6);
            same("run", x.run(n), y.run(n));
        }
    }

    private void pour(int t) {
        int c = number(2);
        int i = number(4);
        int n = number(5);
        same("pour", x.pour(c, i, n, t), y.pour(c, i, n, t));
    }
}

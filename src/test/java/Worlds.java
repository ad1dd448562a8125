import java.util.ArrayList;
import java.util.List;

/** Objects in the states that tests of boundary cases begin from, and pictures of all that can be asked of one. */
final class Worlds {
    /** Of still(), running() and ended(). */
    static final int PORES = 7;
    static final int THROATS = 8;
    static final int TOLD_ROWS = 3;
    /** Of running(). */
    static final int STEPS = 2;
    static final int LAKES = 1;
    /** In still(): the CORES of each kind, all with NUMBERS numbers, and one that is MISSING. */
    static final int DOUBLES = 0;
    static final int FLOATS = 1;
    static final int LONGS = 2;
    static final int MORE_LONGS = 3;
    static final int NO_BYTES = 4;
    static final int MISSING = 5;
    static final int NUMBERS = 4;

    private final SeepingRock x;
    private final List<String> answers = new ArrayList<>();

    private Worlds(SeepingRock x) {
        this.x = x;
    }

    static SeepingRock empty() {
        return new SeepingRock();
    }

    /** A rock with each kind of PORE, LAKES to come and what its RUN opens told ahead, but no RUN. */
    static SeepingRock still() {
        SeepingRock x = rock(0, 1, 2, 3, 4, 0, 0);
        throats(x, 0, 1, 5, 1, 2, 3, 2, 4, 7, 0, 3, 9, 1, 5, 8, 5, 4, 8, 3, 6, 2, 5, 6, 4);
        x.shut(7, true);
        x.inlet(0, true);
        x.trapping(true);
        x.core(DOUBLES, 5, NUMBERS);
        x.core(FLOATS, 4, NUMBERS);
        x.core(LONGS, 3, NUMBERS);
        x.core(MORE_LONGS, 3, NUMBERS);
        x.core(NO_BYTES, 0, 0);
        for (int c = DOUBLES; c <= FLOATS; c++) {
            x.cell(c, 0, 5, 1);
            x.wild(c, 1, 0);
            x.wild(c, 2, 2);
            x.cell(c, 3, 3, 0);
        }
        x.cell(LONGS, 0, 1000000000L, 0);
        x.cell(LONGS, 1, 1000000001L, 0);
        x.cell(LONGS, 3, -1, 0);
        x.cell(MORE_LONGS, 2, Long.MIN_VALUE, 0);
        for (int t = 0; t < TOLD_ROWS; t++) {
            x.claim(t);
        }
        return x;
    }

    /** still(), behind STEP 2 of 3: one LAKE, and one more to come. */
    static SeepingRock running() {
        SeepingRock x = still();
        x.begin();
        x.run(STEPS);
        return x;
    }

    /** still(), at the end of its RUN. */
    static SeepingRock ended() {
        SeepingRock x = still();
        x.begin();
        x.run(200);
        return x;
    }

    /** As many PORES as may be, and a RUN. */
    static SeepingRock allPores() {
        SeepingRock x = rock(new int[120]);
        throats(x, 0, 1, 2, 1, 119, 3);
        return begun(x);
    }

    /** As many THROATS as may be, and a RUN. */
    static SeepingRock allThroats() {
        SeepingRock x = rock(0, 0, 4);
        for (int t = 0; t < 300; t++) {
            x.throat(t % 2, t % 2 + 1);
        }
        return begun(x);
    }

    /** As many THROATS told as may be, and a RUN. */
    static SeepingRock allTold() {
        SeepingRock x = rock(0, 0, 4);
        throats(x, 0, 1, 2, 1, 2, 3);
        for (int k = 0; k < 200; k++) {
            x.claim(k % 2);
        }
        return begun(x);
    }

    private static SeepingRock begun(SeepingRock x) {
        x.inlet(0, true);
        x.begin();
        x.step();
        return x;
    }

    static SeepingRock rock(int... kinds) {
        SeepingRock x = new SeepingRock();
        for (int kind : kinds) {
            x.pore(kind);
        }
        return x;
    }

    /** PORES in a row, a THROAT from each to the next, the first of them an INLET. */
    static SeepingRock chain(int pores) {
        SeepingRock x = rock(new int[pores]);
        for (int p = 1; p < pores; p++) {
            x.throat(p - 1, p);
        }
        x.inlet(0, true);
        return x;
    }

    /** Three numbers a THROAT: its PORES and its HINDRANCE. */
    static void throats(SeepingRock x, int... rows) {
        for (int k = 0; k < rows.length; k += 3) {
            x.hinder(x.throat(rows[k], rows[k + 1]), rows[k + 2]);
        }
    }

    /**
     * What x answers to every question, what its RUN goes on to do, and what its CORES pour. It uses x up.
     * With one of the objects above it stays below 512 calls: of many PORES or THROATS it asks the ends alone.
     */
    static List<String> picture(SeepingRock x) {
        Worlds w = new Worlds(x);
        w.addRock();
        w.addCores();
        w.addRun();
        w.addWays();
        w.add("check()", x.check());
        w.addWhatFollows();
        w.addPours();
        return w.answers;
    }

    private void add(String call, long answer) {
        answers.add(call + " = " + answer);
    }

    /** All of them and one more on either side; of many just these at the ends. */
    private static int[] some(int count) {
        if (count > 10) {
            return new int[] {-1, 0, count - 1, count};
        }
        int[] all = new int[count + 2];
        for (int k = 0; k < all.length; k++) {
            all[k] = k - 1;
        }
        return all;
    }

    private void addRock() {
        for (int what = 0; what < 9; what++) {
            add("many(" + what + ")", x.many(what));
        }
        for (int t : some(x.many(1))) {
            for (int what = 0; what < 5; what++) {
                add("about(" + t + ", " + what + ")", x.about(t, what));
            }
            add("ranked(" + t + ")", x.ranked(t));
        }
        for (int p : some(x.many(0))) {
            for (int what = 0; what < 3; what++) {
                add("of(" + p + ", " + what + ")", x.of(p, what));
            }
        }
    }

    private void addCores() {
        for (int c = 0; c < 6; c++) {
            for (int i = 0; i <= NUMBERS; i++) {
                add("told(" + c + ", " + i + ")", x.told(c, i));
            }
        }
    }

    private void addRun() {
        for (int p : some(x.many(0))) {
            for (int what = 0; what < 4; what++) {
                add("now(" + p + ", " + what + ")", x.now(p, what));
            }
        }
        for (int k = 0; k < 4; k++) {
            add("opened(" + k + ")", x.opened(k));
            add("front(" + k + ")", x.front(k));
        }
        for (int l = 0; l < 3; l++) {
            for (int what = 0; what < 4; what++) {
                add("lake(" + l + ", " + what + ")", x.lake(l, what));
            }
        }
        add("through()", x.through());
    }

    private void addWays() {
        int[] pores = some(x.many(0));
        for (int p : pores) {
            add("worst(" + p + ")", x.worst(p));
            add("way(" + p + ", 0)", x.way(p, 0));
            add("way(" + p + ", 1)", x.way(p, 1));
            add("join(" + p + ", " + pores[1] + ")", x.join(p, pores[1]));
        }
        for (int i = 0; i < 8; i++) {
            add("tree(" + i + ")", x.tree(i));
        }
    }

    private void addWhatFollows() {
        for (int k = 0; k < 3; k++) {
            add("step()", x.step());
            add("undo(0)", x.undo(0));
        }
        for (int what = 2; what < 8; what++) {
            add("many(" + what + ") behind steps", x.many(what));
        }
        add("copy()", x.copy());
        add("undo(2)", x.undo(2));
        add("step()", x.step());
        add("check()", x.check());
        add("trapping(true)", x.trapping(true));
        add("begin()", x.begin());
        add("many(4) behind begin()", x.many(4));
    }

    private void addPours() {
        for (int c = 0; c < 6; c++) {
            for (int i = 0; i < NUMBERS; i++) {
                int poured = x.pour(c, i, 1, 0);
                add("pour(" + c + ", " + i + ", 1, 0)", poured);
                if (poured == 1) {
                    add("about(0, 2)", x.about(0, 2));
                    add("about(0, 3)", x.about(0, 3));
                }
            }
        }
    }
}

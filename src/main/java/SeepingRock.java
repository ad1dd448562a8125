/**
 * A laboratory for a rock through which water drives oil, throat by throat.
 * What each call promises stands in ../shared/DOC.md; every row of numbers is made once, with the object.
 */
public final class SeepingRock {
    public static final int NUMBER = -1;
    public static final int FULL = -2;
    public static final int MISSING = -3;
    public static final int KIND = -4;
    public static final int SIZE = -5;
    public static final int STATE = -6;
    public static final int END = -7;
    public static final int APART = -8;

    private static final int MOST_PORES = 120;
    private static final int MOST_THROATS = 300;
    private static final int MOST_CORES = 6;
    private static final int MOST_NUMBERS = 60;
    private static final int MOST_TOLD = 200;
    private static final int MOST_STEPS_A_CALL = 200;
    private static final int MOST_HALVINGS = 30;
    private static final int MOST_HINDRANCE = 1000000000;

    private static final int WIDE = 1;
    private static final int LIP = 2;
    private static final int DEAD = 3;
    private static final int OUTLET = 4;

    private static final int BYTES = 0;
    private static final int SHORTS = 1;
    private static final int INTS = 2;
    private static final int FLOATS = 4;
    private static final int DOUBLES = 5;

    private static final int NONE = -1;
    /** The answer in place of NUMBER where -1 means "there is none such". */
    private static final int UNKNOWN = -2;
    private static final int SHUT_RANK = -2;
    private static final long GREATEST = 0x7fffffffffffffffL;
    private static final long LEAST = 0x8000000000000000L;

    private final Rock rock = new Rock();
    private final Core[] cores = new Core[MOST_CORES];
    private final Flow flow = new Flow(rock);
    /** check() begins anew on this one, so that the RUN itself stays as it is. */
    private final Flow trial = new Flow(rock);
    private final Ways ways = new Ways(rock);
    private final int[] toldRow = new int[MOST_TOLD];
    private int toldCount;

    public SeepingRock() {
        for (int c = 0; c < MOST_CORES; c++) {
            cores[c] = new Core();
        }
    }

    // ---- the rock

    public int pore(int kind) {
        if (kind < 0 || kind > OUTLET) {
            return NUMBER;
        }
        if (rock.pores >= MOST_PORES) {
            return FULL;
        }
        flow.on = false;
        return rock.addPore(kind);
    }

    public int throat(int a, int b) {
        if (!rock.hasPore(a) || !rock.hasPore(b) || a == b) {
            return NUMBER;
        }
        if (rock.throats >= MOST_THROATS) {
            return FULL;
        }
        flow.on = false;
        return rock.addThroat(a, b);
    }

    public int hinder(int t, int v) {
        if (!rock.hasThroat(t) || !mayHinder(v)) {
            return NUMBER;
        }
        flow.on = false;
        rock.settle(t, v, rock.isOpen(t));
        return 1;
    }

    public int shut(int t, boolean on) {
        if (!rock.hasThroat(t)) {
            return NUMBER;
        }
        flow.on = false;
        if (rock.isOpen(t) != on) {
            return 0;
        }
        rock.settle(t, rock.hindrance[t], !on);
        return 1;
    }

    public int inlet(int p, boolean on) {
        if (!rock.hasPore(p)) {
            return NUMBER;
        }
        flow.on = false;
        if (rock.inlet[p] == on) {
            return 0;
        }
        rock.inlet[p] = on;
        return 1;
    }

    public int trapping(boolean on) {
        flow.on = false;
        if (rock.trapping == on) {
            return 0;
        }
        rock.trapping = on;
        return 1;
    }

    public int about(int t, int what) {
        if (!rock.hasThroat(t)) {
            return NUMBER;
        }
        switch (what) {
            case 0: return rock.oneEnd[t];
            case 1: return rock.otherEnd[t];
            case 2: return rock.hindrance[t];
            case 3: return rock.isOpen(t) ? 1 : 0;
            case 4: return rock.rank[t];
            default: return NUMBER;
        }
    }

    public int of(int p, int what) {
        if (!rock.hasPore(p)) {
            return NUMBER;
        }
        switch (what) {
            case 0: return rock.kind[p];
            case 1: return rock.inlet[p] ? 1 : 0;
            case 2: return rock.firstAt[p + 1] - rock.firstAt[p];
            default: return NUMBER;
        }
    }

    public int ranked(int rank) {
        return rank >= 0 && rank < rock.open ? rock.byRank[rank] : NONE;
    }

    // ---- cores

    public int core(int c, int kind, int n) {
        if (!hasPlace(c) || kind < 0 || kind > DOUBLES) {
            return NUMBER;
        }
        if (n < 0) {
            return SIZE;
        }
        if (n > MOST_NUMBERS) {
            return NUMBER;
        }
        cores[c].renew(kind, n);
        return 1;
    }

    public int cell(int c, int i, long v, int k) {
        if (!hasPlace(c) || k < 0 || k > MOST_HALVINGS) {
            return NUMBER;
        }
        if (!cores[c].there) {
            return MISSING;
        }
        if (!cores[c].hasNumber(i)) {
            return NUMBER;
        }
        cores[c].put(i, v, k);
        return 1;
    }

    public int wild(int c, int i, int what) {
        if (!hasPlace(c) || what < 0 || what > 3) {
            return NUMBER;
        }
        if (!cores[c].there) {
            return MISSING;
        }
        if (cores[c].kind != FLOATS && cores[c].kind != DOUBLES) {
            return KIND;
        }
        if (!cores[c].hasNumber(i)) {
            return NUMBER;
        }
        cores[c].putWild(i, what);
        return 1;
    }

    public int splice(int c, int j, int d, int i, int n) {
        if (!hasPlace(c) || !hasPlace(d)) {
            return NUMBER;
        }
        if (!cores[c].there || !cores[d].there) {
            return MISSING;
        }
        if (cores[c].kind != cores[d].kind) {
            return KIND;
        }
        if (!cores[c].spans(j, n) || !cores[d].spans(i, n)) {
            return NUMBER;
        }
        cores[c].putFrom(j, cores[d], i, n);
        return 1;
    }

    public int lose(int c) {
        if (!hasPlace(c)) {
            return NUMBER;
        }
        if (!cores[c].there) {
            return MISSING;
        }
        cores[c].there = false;
        return 1;
    }

    public long told(int c, int i) {
        if (!hasPlace(c) || !cores[c].there || !cores[c].hasNumber(i)) {
            return GREATEST;
        }
        return cores[c].whole[i];
    }

    public int pour(int c, int i, int n, int t) {
        if (!hasPlace(c)) {
            return NUMBER;
        }
        if (!cores[c].there) {
            return MISSING;
        }
        if (!cores[c].spans(i, n) || t < 0 || t > rock.throats || n > rock.throats - t) {
            return NUMBER;
        }
        flow.on = false;
        for (int m = 0; m < n; m++) {
            pourOne(cores[c], i + m, t + m);
        }
        return 1;
    }

    // ---- runs

    public int begin() {
        flow.start();
        return flow.countFilled();
    }

    public int step() {
        if (!flow.on) {
            return STATE;
        }
        int t = flow.advance();
        return t < 0 ? END : t;
    }

    public int run(int n) {
        if (!flow.on) {
            return STATE;
        }
        if (n < 0 || n > MOST_STEPS_A_CALL) {
            return NUMBER;
        }
        int before = flow.steps;
        for (int m = 0; m < n; m++) {
            if (flow.advance() < 0) {
                break;
            }
        }
        return flow.steps - before;
    }

    public int undo(int n) {
        if (!flow.on) {
            return STATE;
        }
        if (n < 0 || n > flow.steps) {
            return NUMBER;
        }
        flow.takeBackTo(flow.steps - n);
        return flow.steps;
    }

    public int many(int what) {
        if (what < 0 || what > 8) {
            return NUMBER;
        }
        if (what == 0) {
            return rock.pores;
        }
        if (what == 1) {
            return rock.throats;
        }
        if (what == 8) {
            return toldCount;
        }
        return flow.on ? manyInRun(what) : STATE;
    }

    public int opened(int k) {
        return flow.on && k >= 1 && k <= flow.steps ? flow.throatOf[k] : NONE;
    }

    public int now(int p, int what) {
        if (!flow.on) {
            return STATE;
        }
        if (!rock.hasPore(p)) {
            return UNKNOWN;
        }
        switch (what) {
            case 0: return flow.filledStep[p];
            case 1: return flow.filledBy[p];
            case 2: return flow.cutStep[p];
            case 3: return flow.lakeOf[p];
            default: return UNKNOWN;
        }
    }

    public int front(int i) {
        return flow.on && i >= 0 ? flow.candidate(i) : NONE;
    }

    public int lake(int l, int what) {
        if (!flow.on) {
            return STATE;
        }
        if (l < 0 || l >= flow.lakes) {
            return UNKNOWN;
        }
        switch (what) {
            case 0: return flow.lakeStep[l];
            case 1: return flow.lakeSize[l];
            case 2: return flow.lakeLeast[l];
            case 3: return flow.lakeLevel[l];
            default: return UNKNOWN;
        }
    }

    public int through() {
        return flow.on ? flow.firstOutletStep() : STATE;
    }

    // ---- ways and trees

    public int worst(int p) {
        if (!rock.hasPore(p)) {
            return UNKNOWN;
        }
        ways.flood();
        return ways.length[p] < 0 ? APART : ways.worstRank[p];
    }

    public int way(int p, int i) {
        if (!rock.hasPore(p)) {
            return NONE;
        }
        ways.flood();
        return i >= 0 && i < ways.length[p] ? ways.throatOnWay(p, i) : NONE;
    }

    public int join(int p, int q) {
        if (!rock.hasPore(p) || !rock.hasPore(q)) {
            return UNKNOWN;
        }
        return p == q ? -1 : ways.rankJoining(p, q);
    }

    public int tree(int i) {
        return i >= 0 ? ways.branch(i) : NONE;
    }

    // ---- told rows

    public int claim(int t) {
        if (!rock.hasThroat(t)) {
            return NUMBER;
        }
        if (toldCount >= MOST_TOLD) {
            return FULL;
        }
        toldRow[toldCount] = t;
        toldCount++;
        return toldCount;
    }

    public int copy() {
        if (!flow.on) {
            return STATE;
        }
        for (int k = 0; k < flow.steps; k++) {
            toldRow[k] = flow.throatOf[k + 1];
        }
        toldCount = flow.steps;
        return toldCount;
    }

    public int alter(int k, int t) {
        if (k < 0 || k >= toldCount || !rock.hasThroat(t)) {
            return NUMBER;
        }
        toldRow[k] = t;
        return 1;
    }

    public int unclaim() {
        int had = toldCount;
        toldCount = 0;
        return had;
    }

    public int check() {
        trial.start();
        for (int k = 0; k < toldCount; k++) {
            if (trial.advance() != toldRow[k]) {
                return k;
            }
        }
        return -1;
    }

    // ---- helpers of the face

    private static boolean hasPlace(int c) {
        return c >= 0 && c < MOST_CORES;
    }

    private static boolean mayHinder(long v) {
        return v >= 0 && v <= MOST_HINDRANCE;
    }

    private void pourOne(Core core, int i, int t) {
        boolean fits = !core.isNoNumber(i) && mayHinder(core.whole[i]);
        rock.settle(t, fits ? (int) core.whole[i] : rock.hindrance[t], fits);
    }

    private int manyInRun(int what) {
        switch (what) {
            case 2: return flow.steps;
            case 3: return flow.countFilled();
            case 4: return flow.countCut();
            case 5: return rock.pores - flow.countFilled() - flow.countCut();
            case 6: return flow.lakes;
            default: return flow.countCandidates();
        }
    }

    /** PORES and THROATS, with the OPEN ones kept in the order of their RANKS. */
    private static final class Rock {
        int pores;
        final int[] kind = new int[MOST_PORES];
        final boolean[] inlet = new boolean[MOST_PORES];
        int throats;
        final int[] oneEnd = new int[MOST_THROATS];
        final int[] otherEnd = new int[MOST_THROATS];
        final int[] hindrance = new int[MOST_THROATS];
        /** SHUT_RANK for a THROAT that is SHUT: so the rank also tells which ones are OPEN. */
        final int[] rank = new int[MOST_THROATS];
        final int[] byRank = new int[MOST_THROATS];
        int open;
        /** The THROATS at PORE p are at[firstAt[p]] to at[firstAt[p + 1] - 1], SHUT ones too. */
        final int[] firstAt = new int[MOST_PORES + 1];
        final int[] at = new int[2 * MOST_THROATS];
        boolean trapping;

        boolean hasPore(int p) {
            return p >= 0 && p < pores;
        }

        boolean hasThroat(int t) {
            return t >= 0 && t < throats;
        }

        boolean isOpen(int t) {
            return rank[t] >= 0;
        }

        int across(int t, int p) {
            return oneEnd[t] == p ? otherEnd[t] : oneEnd[t];
        }

        int addPore(int newKind) {
            int p = pores;
            pores++;
            kind[p] = newKind;
            firstAt[pores] = firstAt[p];
            return p;
        }

        int addThroat(int a, int b) {
            int t = throats;
            throats++;
            oneEnd[t] = a;
            otherEnd[t] = b;
            listAt(a, t);
            listAt(b, t);
            rankIn(t);
            return t;
        }

        void settle(int t, int v, boolean toBeOpen) {
            if (isOpen(t)) {
                rankOut(t);
            }
            hindrance[t] = v;
            if (toBeOpen) {
                rankIn(t);
            }
        }

        private void listAt(int p, int t) {
            int place = firstAt[p + 1];
            for (int e = firstAt[pores]; e > place; e--) {
                at[e] = at[e - 1];
            }
            at[place] = t;
            for (int q = p + 1; q <= pores; q++) {
                firstAt[q]++;
            }
        }

        private void rankOut(int t) {
            open--;
            for (int r = rank[t]; r < open; r++) {
                place(byRank[r + 1], r);
            }
            rank[t] = SHUT_RANK;
        }

        private void rankIn(int t) {
            int r = open;
            for (; r > 0 && isAhead(t, byRank[r - 1]); r--) {
                place(byRank[r - 1], r);
            }
            place(t, r);
            open++;
        }

        private void place(int t, int r) {
            byRank[r] = t;
            rank[t] = r;
        }

        private boolean isAhead(int t, int u) {
            return hindrance[t] < hindrance[u] || hindrance[t] == hindrance[u] && t < u;
        }
    }

    /**
     * One CORE. No call tells more of a number than its whole part and whether it is a number at all,
     * so just these are kept, for each kind alike: then no float or double here is ever not a number.
     */
    private static final class Core {
        boolean there;
        int kind;
        int size;
        final long[] whole = new long[MOST_NUMBERS];
        /** 1 for "not a number", else 0. */
        final byte[] noNumber = new byte[MOST_NUMBERS];

        void renew(int newKind, int n) {
            there = true;
            kind = newKind;
            size = n;
            for (int i = 0; i < n; i++) {
                whole[i] = 0;
                noNumber[i] = 0;
            }
        }

        boolean hasNumber(int i) {
            return i >= 0 && i < size;
        }

        boolean isNoNumber(int i) {
            return noNumber[i] != 0;
        }

        /** Without i + n, which might wrap around. */
        boolean spans(int i, int n) {
            return n >= 0 && i >= 0 && i <= size && n <= size - i;
        }

        void put(int i, long v, int k) {
            whole[i] = wholeOf(v, 1 << k);
            noNumber[i] = 0;
        }

        void putWild(int i, int what) {
            noNumber[i] = (byte) (what == 0 ? 1 : 0);
            whole[i] = what == 1 ? GREATEST : what == 2 ? LEAST : 0;
        }

        void putFrom(int j, Core from, int i, int n) {
            System.arraycopy(from.whole, i, whole, j, n);
            System.arraycopy(from.noNumber, i, noNumber, j, n);
        }

        private long wholeOf(long v, int parts) {
            switch (kind) {
                case BYTES: return (byte) v;
                case SHORTS: return (short) v;
                case INTS: return (int) v;
                case FLOATS: return (long) ((float) v / (float) parts);
                case DOUBLES: return (long) ((double) v / (double) parts);
                default: return v;
            }
        }
    }

    /** A RUN on a rock that doesn't change while it is on. */
    private static final class Flow {
        final Rock rock;
        boolean on;
        int steps;
        /** What a STEP opened and FILLED, from STEP 1 on. */
        final int[] throatOf = new int[MOST_PORES + 1];
        final int[] poreOf = new int[MOST_PORES + 1];
        final int[] filledStep = new int[MOST_PORES];
        final int[] filledBy = new int[MOST_PORES];
        final int[] cutStep = new int[MOST_PORES];
        final int[] lakeOf = new int[MOST_PORES];
        int lakes;
        final int[] lakeStep = new int[MOST_PORES];
        final int[] lakeSize = new int[MOST_PORES];
        final int[] lakeLeast = new int[MOST_PORES];
        final int[] lakeLevel = new int[MOST_PORES];
        final int[] queue = new int[MOST_PORES];
        final boolean[] reached = new boolean[MOST_PORES];

        Flow(Rock rock) {
            this.rock = rock;
        }

        void start() {
            on = true;
            steps = 0;
            lakes = 0;
            for (int p = 0; p < rock.pores; p++) {
                filledStep[p] = rock.inlet[p] ? 0 : NONE;
                filledBy[p] = NONE;
                cutStep[p] = NONE;
                lakeOf[p] = NONE;
            }
            cutOff();
        }

        /** The THROAT that is opened; NONE without CANDIDATES. */
        int advance() {
            int t = nextThroat();
            if (t < 0) {
                return NONE;
            }
            int p = rock.oneEnd[t];
            if (filledStep[p] >= 0) {
                p = rock.otherEnd[t];
            }
            steps++;
            throatOf[steps] = t;
            poreOf[steps] = p;
            filledStep[p] = steps;
            filledBy[p] = t;
            cutOff();
            return t;
        }

        void takeBackTo(int left) {
            steps = left;
            for (int p = 0; p < rock.pores; p++) {
                if (filledStep[p] > left) {
                    filledStep[p] = NONE;
                    filledBy[p] = NONE;
                }
                if (cutStep[p] > left) {
                    cutStep[p] = NONE;
                    lakeOf[p] = NONE;
                }
            }
            while (lakes > 0 && lakeStep[lakes - 1] > left) {
                lakes--;
            }
        }

        /** CANDIDATE i by RANK; NONE if there is none such. */
        int candidate(int i) {
            int before = 0;
            for (int r = 0; r < rock.open; r++) {
                if (isCandidate(rock.byRank[r])) {
                    if (before == i) {
                        return rock.byRank[r];
                    }
                    before++;
                }
            }
            return NONE;
        }

        int countCandidates() {
            int count = 0;
            for (int r = 0; r < rock.open; r++) {
                count += isCandidate(rock.byRank[r]) ? 1 : 0;
            }
            return count;
        }

        int countFilled() {
            int count = 0;
            for (int p = 0; p < rock.pores; p++) {
                count += filledStep[p] >= 0 ? 1 : 0;
            }
            return count;
        }

        int countCut() {
            int count = 0;
            for (int p = 0; p < rock.pores; p++) {
                count += cutStep[p] >= 0 ? 1 : 0;
            }
            return count;
        }

        int firstOutletStep() {
            int first = NONE;
            for (int p = 0; p < rock.pores; p++) {
                boolean filled = rock.kind[p] == OUTLET && filledStep[p] >= 0;
                if (filled && (first < 0 || filledStep[p] < first)) {
                    first = filledStep[p];
                }
            }
            return first;
        }

        private int nextThroat() {
            int t = steps > 0 ? preferredAt(poreOf[steps]) : NONE;
            return t >= 0 ? t : candidate(0);
        }

        /** What a WIDE PORE or a LIP opens of the CANDIDATES at it; NONE if it has none, or for other kinds. */
        private int preferredAt(int p) {
            boolean lip = rock.kind[p] == LIP;
            if (!lip && rock.kind[p] != WIDE) {
                return NONE;
            }
            int best = NONE;
            for (int e = rock.firstAt[p]; e < rock.firstAt[p + 1]; e++) {
                int t = rock.at[e];
                if (rock.isOpen(t) && isCandidate(t) && (best < 0 || isPreferred(t, best, lip))) {
                    best = t;
                }
            }
            return best;
        }

        private boolean isPreferred(int t, int best, boolean lip) {
            return lip ? rock.rank[t] > rock.rank[best] : rock.rank[t] < rock.rank[best];
        }

        /** Asked of OPEN THROATS alone. */
        private boolean isCandidate(int t) {
            return leads(rock.oneEnd[t], rock.otherEnd[t]) || leads(rock.otherEnd[t], rock.oneEnd[t]);
        }

        private boolean leads(int from, int to) {
            return filledStep[from] >= 0 && rock.kind[from] != DEAD && filledStep[to] < 0 && cutStep[to] < 0;
        }

        private void cutOff() {
            if (!rock.trapping) {
                return;
            }
            reachFromOutlets();
            for (int p = 0; p < rock.pores; p++) {
                if (filledStep[p] < 0 && cutStep[p] < 0 && !reached[p]) {
                    cutStep[p] = steps;
                }
            }
            for (int p = 0; p < rock.pores; p++) {
                if (cutStep[p] == steps && lakeOf[p] < 0) {
                    addLake(p);
                }
            }
        }

        private void reachFromOutlets() {
            int known = 0;
            for (int p = 0; p < rock.pores; p++) {
                reached[p] = rock.kind[p] == OUTLET && filledStep[p] < 0;
                if (reached[p]) {
                    queue[known] = p;
                    known++;
                }
            }
            for (int k = 0; k < known && k < MOST_PORES; k++) {
                known = reachAround(queue[k], known);
            }
        }

        private int reachAround(int p, int known) {
            int count = known;
            for (int e = rock.firstAt[p]; e < rock.firstAt[p + 1]; e++) {
                int q = rock.across(rock.at[e], p);
                if (rock.isOpen(rock.at[e]) && filledStep[q] < 0 && !reached[q]) {
                    reached[q] = true;
                    queue[count] = q;
                    count++;
                }
            }
            return count;
        }

        private void addLake(int least) {
            lakeOf[least] = lakes;
            queue[0] = least;
            int known = 1;
            for (int k = 0; k < known && k < MOST_PORES; k++) {
                known = drownAround(queue[k], known);
            }
            lakeStep[lakes] = steps;
            lakeSize[lakes] = known;
            lakeLeast[lakes] = least;
            lakeLevel[lakes] = greatestRankOpened();
            lakes++;
        }

        private int drownAround(int p, int known) {
            int count = known;
            for (int e = rock.firstAt[p]; e < rock.firstAt[p + 1]; e++) {
                int q = rock.across(rock.at[e], p);
                if (rock.isOpen(rock.at[e]) && cutStep[q] == steps && lakeOf[q] < 0) {
                    lakeOf[q] = lakes;
                    queue[count] = q;
                    count++;
                }
            }
            return count;
        }

        private int greatestRankOpened() {
            int greatest = NONE;
            for (int k = 1; k <= steps; k++) {
                greatest = Math.max(greatest, rock.rank[throatOf[k]]);
            }
            return greatest;
        }
    }

    /** THE PLAIN RUN, JOINS and THE TREE, found anew for each question. */
    private static final class Ways {
        final Rock rock;
        /** How many THROATS THE WAY of a PORE has; NONE if THE PLAIN RUN doesn't FILL it. */
        final int[] length = new int[MOST_PORES];
        final int[] worstRank = new int[MOST_PORES];
        final int[] filledBy = new int[MOST_PORES];
        /** PORES of one group hang together. */
        final int[] group = new int[MOST_PORES];

        Ways(Rock rock) {
            this.rock = rock;
        }

        void flood() {
            for (int p = 0; p < rock.pores; p++) {
                length[p] = rock.inlet[p] ? 0 : NONE;
                worstRank[p] = NONE;
                filledBy[p] = NONE;
            }
            for (int n = 0; n < rock.pores; n++) {
                if (!fillNext()) {
                    break;
                }
            }
        }

        /** Asked of PORES with a way longer than i alone. */
        int throatOnWay(int p, int i) {
            int q = p;
            for (int n = length[p] - 1; n > i; n--) {
                q = rock.across(filledBy[q], q);
            }
            return filledBy[q];
        }

        int rankJoining(int p, int q) {
            stand();
            for (int r = 0; r < rock.open; r++) {
                unite(rock.byRank[r]);
                if (group[p] == group[q]) {
                    return r;
                }
            }
            return APART;
        }

        /** THROAT i of THE TREE; NONE if there is none such. */
        int branch(int i) {
            stand();
            int taken = 0;
            for (int r = 0; r < rock.open; r++) {
                if (unite(rock.byRank[r])) {
                    if (taken == i) {
                        return rock.byRank[r];
                    }
                    taken++;
                }
            }
            return NONE;
        }

        private boolean fillNext() {
            for (int r = 0; r < rock.open; r++) {
                int t = rock.byRank[r];
                int a = rock.oneEnd[t];
                int b = rock.otherEnd[t];
                if (length[a] >= 0 != length[b] >= 0) {
                    fill(t, length[a] >= 0 ? a : b);
                    return true;
                }
            }
            return false;
        }

        private void fill(int t, int from) {
            int p = rock.across(t, from);
            length[p] = length[from] + 1;
            worstRank[p] = Math.max(worstRank[from], rock.rank[t]);
            filledBy[p] = t;
        }

        /** Each PORE stands alone at first. */
        private void stand() {
            for (int p = 0; p < rock.pores; p++) {
                group[p] = p;
            }
        }

        /** True if the THROAT joins what didn't hang together. */
        private boolean unite(int t) {
            int kept = group[rock.oneEnd[t]];
            int gone = group[rock.otherEnd[t]];
            if (kept == gone) {
                return false;
            }
            for (int p = 0; p < rock.pores; p++) {
                if (group[p] == gone) {
                    group[p] = kept;
                }
            }
            return true;
        }
    }
}

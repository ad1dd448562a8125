import java.util.ArrayList;
import java.util.Arrays;
import java.util.Comparator;
import java.util.HashMap;
import java.util.HashSet;
import java.util.List;
import java.util.Map;
import java.util.Set;
import java.util.TreeMap;
import java.util.TreeSet;

/**
 * The document said over in the plainest words: every answer is found anew from what was set and how many
 * STEPS the RUN has, with the Java library, real floats and doubles, and no thought of speed.
 */
final class NaiveRock {
    private static final class Throat {
        int number;
        int a;
        int b;
        int hindrance;
        boolean open = true;
    }

    /** One moment of a RUN. */
    private static final class Flow {
        final Map<Integer, Integer> filled = new TreeMap<>();
        final Map<Integer, Integer> by = new HashMap<>();
        final Map<Integer, Integer> cut = new TreeMap<>();
        final List<Integer> opened = new ArrayList<>();
        final List<Integer> gained = new ArrayList<>();
        final List<TreeSet<Integer>> lakes = new ArrayList<>();
        final List<Integer> lakeSteps = new ArrayList<>();
    }

    private final List<Integer> kinds = new ArrayList<>();
    private final Set<Integer> inlets = new TreeSet<>();
    private final List<Throat> throats = new ArrayList<>();
    private boolean trapping;
    private final Object[] cores = new Object[6];
    private Flow flow;
    private final List<Integer> row = new ArrayList<>();

    int pore(int kind) {
        if (kind < 0 || kind > 4) return -1;
        if (kinds.size() == 120) return -2;
        flow = null;
        kinds.add(kind);
        return kinds.size() - 1;
    }

    int throat(int a, int b) {
        if (noPore(a) || noPore(b) || a == b) return -1;
        if (throats.size() == 300) return -2;
        flow = null;
        Throat t = new Throat();
        t.number = throats.size();
        t.a = a;
        t.b = b;
        throats.add(t);
        return t.number;
    }

    int hinder(int t, int v) {
        if (noThroat(t) || v < 0 || v > 1_000_000_000) return -1;
        flow = null;
        throats.get(t).hindrance = v;
        return 1;
    }

    int shut(int t, boolean on) {
        if (noThroat(t)) return -1;
        flow = null;
        int changes = throats.get(t).open == on ? 1 : 0;
        throats.get(t).open = !on;
        return changes;
    }

    int inlet(int p, boolean on) {
        if (noPore(p)) return -1;
        flow = null;
        return (on ? inlets.add(p) : inlets.remove(p)) ? 1 : 0;
    }

    int trapping(boolean on) {
        flow = null;
        int changes = trapping != on ? 1 : 0;
        trapping = on;
        return changes;
    }

    int about(int t, int what) {
        if (noThroat(t) || what < 0 || what > 4) return -1;
        Throat x = throats.get(t);
        int rank = x.open ? rank(x) : -2;
        return new int[] {x.a, x.b, x.hindrance, x.open ? 1 : 0, rank}[what];
    }

    int of(int p, int what) {
        if (noPore(p) || what < 0 || what > 2) return -1;
        int many = (int) throats.stream().filter(t -> t.a == p || t.b == p).count();
        return new int[] {kinds.get(p), inlets.contains(p) ? 1 : 0, many}[what];
    }

    int ranked(int rank) {
        List<Throat> open = byRank();
        return rank < 0 || rank >= open.size() ? -1 : open.get(rank).number;
    }

    int core(int c, int kind, int n) {
        if (noCore(c) || kind < 0 || kind > 5) return -1;
        if (n < 0) return -5;
        if (n > 60) return -1;
        Object[] rows = {new byte[n], new short[n], new int[n], new long[n], new float[n], new double[n]};
        cores[c] = rows[kind];
        return 1;
    }

    int cell(int c, int i, long v, int k) {
        if (noCore(c) || k < 0 || k > 30) return -1;
        if (cores[c] == null) return -3;
        if (i < 0 || i >= length(c)) return -1;
        if (cores[c] instanceof byte[] x) x[i] = (byte) v;
        if (cores[c] instanceof short[] x) x[i] = (short) v;
        if (cores[c] instanceof int[] x) x[i] = (int) v;
        if (cores[c] instanceof long[] x) x[i] = v;
        if (cores[c] instanceof float[] x) x[i] = (float) (((float) v) / Math.pow(2, k));
        if (cores[c] instanceof double[] x) x[i] = v / Math.pow(2, k);
        return 1;
    }

    int wild(int c, int i, int what) {
        if (noCore(c) || what < 0 || what > 3) return -1;
        if (cores[c] == null) return -3;
        if (!(cores[c] instanceof float[]) && !(cores[c] instanceof double[])) return -4;
        if (i < 0 || i >= length(c)) return -1;
        double wild = new double[] {Double.NaN, Double.POSITIVE_INFINITY, Double.NEGATIVE_INFINITY, -0.0}[what];
        if (cores[c] instanceof float[] x) x[i] = (float) wild;
        if (cores[c] instanceof double[] x) x[i] = wild;
        return 1;
    }

    int splice(int c, int j, int d, int i, int n) {
        if (noCore(c) || noCore(d)) return -1;
        if (cores[c] == null || cores[d] == null) return -3;
        if (cores[c].getClass() != cores[d].getClass()) return -4;
        if (n < 0 || i < 0 || j < 0 || (long) i + n > length(d) || (long) j + n > length(c)) return -1;
        System.arraycopy(cores[d], i, cores[c], j, n);
        return 1;
    }

    int lose(int c) {
        if (noCore(c)) return -1;
        if (cores[c] == null) return -3;
        cores[c] = null;
        return 1;
    }

    long told(int c, int i) {
        if (noCore(c) || cores[c] == null || i < 0 || i >= length(c)) return Long.MAX_VALUE;
        if (cores[c] instanceof long[] x) return x[i];
        return (long) number(c, i);
    }

    int pour(int c, int i, int n, int t) {
        if (noCore(c)) return -1;
        if (cores[c] == null) return -3;
        if (n < 0 || i < 0 || (long) i + n > length(c) || t < 0 || (long) t + n > throats.size()) return -1;
        flow = null;
        for (int m = 0; m < n; m++) {
            double v = number(c, i + m);
            Throat x = throats.get(t + m);
            x.open = v > -1 && v < 1_000_000_001;
            if (x.open) x.hindrance = (int) v;
        }
        return 1;
    }

    int begin() {
        flow = started();
        return flow.filled.size();
    }

    int step() {
        if (flow == null) return -6;
        int t = next(flow);
        if (t < 0) return -7;
        open(flow, t);
        return t;
    }

    int run(int n) {
        if (flow == null) return -6;
        if (n < 0 || n > 200) return -1;
        int done = 0;
        while (done < n && step() >= 0) done++;
        return done;
    }

    /** The RUN goes the way to the STEP that is left once more. */
    int undo(int n) {
        if (flow == null) return -6;
        if (n < 0 || n > flow.opened.size()) return -1;
        List<Integer> left = flow.opened.subList(0, flow.opened.size() - n);
        Flow again = started();
        for (int t : left) open(again, t);
        flow = again;
        return flow.opened.size();
    }

    int many(int what) {
        if (what < 0 || what > 8) return -1;
        if (what == 0) return kinds.size();
        if (what == 1) return throats.size();
        if (what == 8) return row.size();
        if (flow == null) return -6;
        int others = kinds.size() - flow.filled.size() - flow.cut.size();
        return new int[] {flow.opened.size(), flow.filled.size(), flow.cut.size(), others, flow.lakes.size(),
            candidates(flow).size()}[what - 2];
    }

    int opened(int k) {
        return flow == null || k < 1 || k > flow.opened.size() ? -1 : flow.opened.get(k - 1);
    }

    int now(int p, int what) {
        if (flow == null) return -6;
        if (noPore(p) || what < 0 || what > 3) return -2;
        if (what == 0) return flow.filled.getOrDefault(p, -1);
        if (what == 1) return flow.by.getOrDefault(p, -1);
        if (what == 2) return flow.cut.getOrDefault(p, -1);
        for (int l = 0; l < flow.lakes.size(); l++) {
            if (flow.lakes.get(l).contains(p)) return l;
        }
        return -1;
    }

    int front(int i) {
        if (flow == null) return -1;
        List<Throat> front = candidates(flow);
        return i < 0 || i >= front.size() ? -1 : front.get(i).number;
    }

    int lake(int l, int what) {
        if (flow == null) return -6;
        if (l < 0 || l >= flow.lakes.size() || what < 0 || what > 3) return -2;
        int at = flow.lakeSteps.get(l);
        int level = flow.opened.subList(0, at).stream().mapToInt(t -> rank(throats.get(t))).max().orElse(-1);
        return new int[] {at, flow.lakes.get(l).size(), flow.lakes.get(l).first(), level}[what];
    }

    int through() {
        if (flow == null) return -6;
        return flow.filled.keySet().stream().filter(p -> kinds.get(p) == 4)
            .mapToInt(flow.filled::get).min().orElse(-1);
    }

    int worst(int p) {
        if (noPore(p)) return -2;
        List<Integer> way = plainWays().get(p);
        return way == null ? -8 : way.stream().mapToInt(t -> rank(throats.get(t))).max().orElse(-1);
    }

    int way(int p, int i) {
        List<Integer> way = plainWays().get(p);
        return way == null || i < 0 || i >= way.size() ? -1 : way.get(i);
    }

    int join(int p, int q) {
        if (noPore(p) || noPore(q)) return -2;
        for (int r = -1; r < byRank().size(); r++) {
            if (hangTogether(p, q, byRank().subList(0, r + 1))) return r;
        }
        return -8;
    }

    int tree(int i) {
        List<Throat> taken = new ArrayList<>();
        for (Throat t : byRank()) {
            if (!hangTogether(t.a, t.b, taken)) taken.add(t);
        }
        return i < 0 || i >= taken.size() ? -1 : taken.get(i).number;
    }

    int claim(int t) {
        if (noThroat(t)) return -1;
        if (row.size() == 200) return -2;
        row.add(t);
        return row.size();
    }

    int copy() {
        if (flow == null) return -6;
        row.clear();
        row.addAll(flow.opened);
        return row.size();
    }

    int alter(int k, int t) {
        if (k < 0 || k >= row.size() || noThroat(t)) return -1;
        row.set(k, t);
        return 1;
    }

    int unclaim() {
        int had = row.size();
        row.clear();
        return had;
    }

    int check() {
        Flow anew = started();
        for (int k = 0; k < row.size(); k++) {
            int t = next(anew);
            if (t != row.get(k)) return k;
            open(anew, t);
        }
        return -1;
    }

    private boolean noPore(int p) {
        return p < 0 || p >= kinds.size();
    }

    private boolean noThroat(int t) {
        return t < 0 || t >= throats.size();
    }

    private static boolean noCore(int c) {
        return c < 0 || c > 5;
    }

    private int length(int c) {
        return java.lang.reflect.Array.getLength(cores[c]);
    }

    /** Longs beyond a double's digits are no nearer to what pour() asks by it. */
    private double number(int c, int i) {
        return java.lang.reflect.Array.getDouble(cores[c], i);
    }

    private List<Throat> byRank() {
        List<Throat> open = new ArrayList<>(throats);
        open.removeIf(t -> !t.open);
        open.sort(Comparator.<Throat>comparingInt(t -> t.hindrance).thenComparingInt(t -> t.number));
        return open;
    }

    private int rank(Throat x) {
        return (int) throats.stream().filter(t -> t.open
            && (t.hindrance < x.hindrance || t.hindrance == x.hindrance && t.number < x.number)).count();
    }

    private Flow started() {
        Flow f = new Flow();
        for (int p : inlets) f.filled.put(p, 0);
        trap(f);
        return f;
    }

    private boolean leads(Flow f, int from, int to) {
        return f.filled.containsKey(from) && kinds.get(from) != 3 && !f.filled.containsKey(to) && !f.cut.containsKey(to);
    }

    private List<Throat> candidates(Flow f) {
        List<Throat> some = byRank();
        some.removeIf(t -> !leads(f, t.a, t.b) && !leads(f, t.b, t.a));
        return some;
    }

    private int next(Flow f) {
        List<Throat> all = candidates(f);
        if (all.isEmpty()) return -1;
        if (f.gained.isEmpty()) return all.get(0).number;
        int last = f.gained.get(f.gained.size() - 1);
        List<Throat> there = new ArrayList<>(all);
        there.removeIf(t -> t.a != last && t.b != last);
        if (!there.isEmpty() && kinds.get(last) == 1) return there.get(0).number;
        if (!there.isEmpty() && kinds.get(last) == 2) return there.get(there.size() - 1).number;
        return all.get(0).number;
    }

    private void open(Flow f, int t) {
        int a = throats.get(t).a;
        int p = f.filled.containsKey(a) ? throats.get(t).b : a;
        f.opened.add(t);
        f.gained.add(p);
        f.filled.put(p, f.opened.size());
        f.by.put(p, t);
        trap(f);
    }

    private void trap(Flow f) {
        if (!trapping) return;
        Set<Integer> outside = new TreeSet<>();
        for (int p = 0; p < kinds.size(); p++) {
            if (!f.filled.containsKey(p)) outside.add(p);
        }
        Set<Integer> fresh = new TreeSet<>();
        for (int p : outside) {
            boolean flees = spread(p, outside, byRank()).stream().anyMatch(q -> kinds.get(q) == 4);
            if (!flees && !f.cut.containsKey(p)) fresh.add(p);
        }
        for (int p : fresh) f.cut.put(p, f.opened.size());
        Set<Integer> seen = new HashSet<>();
        for (int p : fresh) {
            if (seen.contains(p)) continue;
            TreeSet<Integer> lake = spread(p, fresh, byRank());
            seen.addAll(lake);
            f.lakes.add(lake);
            f.lakeSteps.add(f.opened.size());
        }
    }

    private boolean hangTogether(int p, int q, List<Throat> by) {
        Set<Integer> all = new TreeSet<>();
        for (int k = 0; k < kinds.size(); k++) all.add(k);
        return spread(p, all, by).contains(q);
    }

    /** Where one comes from a PORE over PORES among these. */
    private TreeSet<Integer> spread(int from, Set<Integer> among, List<Throat> by) {
        TreeSet<Integer> come = new TreeSet<>(Arrays.asList(from));
        boolean more = true;
        while (more) {
            more = false;
            for (Throat t : by) {
                if (come.contains(t.a) && among.contains(t.b)) more |= come.add(t.b);
                if (come.contains(t.b) && among.contains(t.a)) more |= come.add(t.a);
            }
        }
        return come;
    }

    private Map<Integer, List<Integer>> plainWays() {
        Map<Integer, List<Integer>> ways = new HashMap<>();
        for (int p : inlets) ways.put(p, new ArrayList<>());
        boolean more = true;
        while (more) {
            more = false;
            for (Throat t : byRank()) {
                if (ways.containsKey(t.a) == ways.containsKey(t.b)) continue;
                int from = ways.containsKey(t.a) ? t.a : t.b;
                List<Integer> way = new ArrayList<>(ways.get(from));
                way.add(t.number);
                ways.put(t.a + t.b - from, way);
                more = true;
                break;
            }
        }
        return ways;
    }
}

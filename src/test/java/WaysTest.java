/** Promises 28 to 31: ways, joins and the tree. */
public final class WaysTest {
    private static final Due DUE = new Due("WaysTest");

    public static void main(String[] args) {
        worsts();
        ways();
        plainRun();
        joins();
        trees();
        longest();
        fullest();
        besideRuns();
        DUE.end();
    }

    private static void worsts() {
        SeepingRock x = diamond();
        DUE.is("28 without inlets", x.worst(0), SeepingRock.APART);
        x.inlet(0, true);
        int[] due = {-1, 2, 0, 1, SeepingRock.APART};
        for (int p = 0; p < 5; p++) {
            DUE.is("28 worst(" + p + ")", x.worst(p), due[p]);
        }
        DUE.is("28 no such pore", x.worst(5), -2);
        DUE.is("28 below none", x.worst(-1), -2);
        x.inlet(1, true);
        DUE.is("28 of another inlet", x.worst(1), -1);
        x.inlet(0, false);
        DUE.is("28 from the other side", x.worst(0), 2);
        x.shut(2, true);
        DUE.is("28 round by the open ones", x.worst(0), 2);
        DUE.is("28 the next pore", x.worst(2), 2);
        x.shut(0, true);
        DUE.is("28 no way any more", x.worst(2), SeepingRock.APART);
    }

    private static void ways() {
        SeepingRock x = diamond();
        DUE.is("29 without inlets", x.way(1, 0), -1);
        x.inlet(0, true);
        way(x, 0);
        way(x, 1, 1, 3, 2);
        way(x, 2, 1);
        way(x, 3, 1, 3);
        way(x, 4);
        DUE.is("29 below the first", x.way(1, -1), -1);
        DUE.is("29 far beyond", x.way(1, Integer.MAX_VALUE), -1);
        DUE.is("29 no such pore", x.way(5, 0), -1);
        DUE.is("29 below none", x.way(-1, 0), -1);
        x.inlet(1, true);
        way(x, 1);
        way(x, 3, 1, 3);
    }

    private static void way(SeepingRock x, int p, int... throats) {
        for (int i = 0; i < throats.length; i++) {
            DUE.is("29 way(" + p + ", " + i + ")", x.way(p, i), throats[i]);
        }
        DUE.is("29 the end of the way of " + p, x.way(p, throats.length), -1);
    }

    /** It knows no kinds and no trapping, and a pore is filled by the least of all throats, not of its own. */
    private static void plainRun() {
        SeepingRock x = new SeepingRock();
        int[] kinds = {2, 3, 1, 4, 3};
        for (int kind : kinds) {
            x.pore(kind);
        }
        throats(x, 0, 1, 4, 1, 2, 6, 2, 3, 2, 0, 3, 7, 3, 4, 1);
        x.inlet(0, true);
        x.trapping(true);
        DUE.is("28 dead ones lead on", x.worst(2), 3);
        way(x, 4, 0, 1, 2, 4);
        DUE.is("28 over them all", x.worst(4), 3);
        DUE.is("30 over a dead one", x.join(0, 2), 3);
        x.hinder(1, 8);
        way(x, 2, 3, 2);
        DUE.is("28 the other way round", x.worst(2), 3);
    }

    private static void joins() {
        SeepingRock x = diamond();
        DUE.is("30 of one and itself", x.join(4, 4), -1);
        DUE.is("30 side by side", x.join(0, 2), 0);
        DUE.is("30 over another", x.join(0, 3), 1);
        DUE.is("30 the other way round", x.join(3, 0), 1);
        DUE.is("30 over two", x.join(0, 1), 2);
        DUE.is("30 none such", x.join(0, 4), SeepingRock.APART);
        DUE.is("30 no such p", x.join(5, 0), -2);
        DUE.is("30 no such q", x.join(0, 5), -2);
        DUE.is("30 no such both", x.join(-1, -1), -2);
        x.shut(1, true);
        DUE.is("30 without a shut one", x.join(0, 2), 2);
        x.shut(0, true);
        x.shut(4, true);
        DUE.is("30 not over shut ones", x.join(0, 2), SeepingRock.APART);
        x.throat(4, 0);
        DUE.is("30 a new one", x.join(0, 4), 0);
    }

    private static void trees() {
        SeepingRock x = diamond();
        tree(x, 1, 3, 2);
        DUE.is("31 below the first", x.tree(-1), -1);
        DUE.is("31 far beyond", x.tree(Integer.MAX_VALUE), -1);
        x.shut(3, true);
        tree(x, 1, 2, 0);
        x.throat(3, 4);
        tree(x, 5, 1, 2, 0);
        x.hinder(5, 100);
        tree(x, 1, 2, 0, 5);
        DUE.is("31 of nothing", new SeepingRock().tree(0), -1);
    }

    private static void tree(SeepingRock x, int... throats) {
        for (int i = 0; i < throats.length; i++) {
            DUE.is("31 tree(" + i + ")", x.tree(i), throats[i]);
        }
        DUE.is("31 the end of the tree", x.tree(throats.length), -1);
    }

    private static void longest() {
        SeepingRock x = new SeepingRock();
        for (int p = 0; p < 120; p++) {
            x.pore(0);
        }
        for (int p = 119; p > 0; p--) {
            x.throat(p, p - 1);
        }
        x.inlet(0, true);
        DUE.is("29 the first of the longest way", x.way(119, 0), 118);
        DUE.is("29 its last", x.way(119, 118), 0);
        DUE.is("29 its end", x.way(119, 119), -1);
        DUE.is("28 its worst", x.worst(119), 118);
        DUE.is("30 its join", x.join(119, 0), 118);
        DUE.is("31 the last of the tree", x.tree(118), 118);
        DUE.is("31 its end", x.tree(119), -1);
    }

    /** As many throats as there may be, and all of them OPEN. */
    private static void fullest() {
        SeepingRock x = new SeepingRock();
        for (int p = 0; p < 120; p++) {
            x.pore(0);
        }
        for (int t = 0; t < 300; t++) {
            x.throat(t < 299 ? t % 100 : 110, (t + 1) % 100);
        }
        DUE.is("30 the last of all", x.join(0, 110), 299);
        DUE.is("30 apart", x.join(0, 111), SeepingRock.APART);
        DUE.is("31 the ring but one", x.tree(98), 98);
        DUE.is("31 the last of all", x.tree(99), 299);
        DUE.is("31 no more", x.tree(100), -1);
        x.inlet(110, true);
        DUE.is("28 all of it", x.worst(1), 299);
        DUE.is("29 the first", x.way(1, 0), 299);
        DUE.is("28 apart", x.worst(111), SeepingRock.APART);
        x.begin();
        DUE.is("25 the last of all", x.front(0), 299);
        DUE.is("20 the ring", x.run(200), 100);
        DUE.is("25 none left", x.front(0), -1);
    }

    /** The questions ask the rock as it is, and leave a run as it is. */
    private static void besideRuns() {
        SeepingRock x = diamond();
        x.inlet(0, true);
        x.begin();
        x.step();
        DUE.is("28 in a run", x.worst(1), 2);
        DUE.is("29 in a run", x.way(1, 2), 2);
        DUE.is("30 in a run", x.join(0, 1), 2);
        DUE.is("31 in a run", x.tree(2), 2);
        DUE.is("28 the run stays", x.many(2), 1);
        DUE.is("28 and goes on", x.step(), 3);
    }

    /** A ring of four PORES with one throat across, and one PORE apart. The RANKS: throat 1, 3, 2, 0, 4. */
    private static SeepingRock diamond() {
        SeepingRock x = new SeepingRock();
        for (int p = 0; p < 5; p++) {
            x.pore(0);
        }
        throats(x, 0, 1, 9, 0, 2, 1, 3, 1, 5, 2, 3, 3, 0, 3, 10);
        return x;
    }

    private static void throats(SeepingRock x, int... rows) {
        for (int k = 0; k < rows.length; k += 3) {
            x.hinder(x.throat(rows[k], rows[k + 1]), rows[k + 2]);
        }
    }
}

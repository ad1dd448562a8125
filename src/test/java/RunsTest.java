/** Promises 18 to 27: runs. */
public final class RunsTest {
    private static final Due DUE = new Due("RunsTest");
    private static final int PORE = 0;
    private static final int WIDE = 1;
    private static final int LIP = 2;
    private static final int DEAD = 3;
    private static final int OUTLET = 4;

    public static void main(String[] args) {
        beginnings();
        steps();
        widePores();
        lips();
        deadPores();
        runs();
        undoing();
        undoneKinds();
        undoneLakes();
        counts();
        openings();
        pores();
        fronts();
        lakes();
        lakesAtOnce();
        breakthroughs();
        lowestNumbers();
        firstThroatAtKinds();
        cutAtFirst();
        filledOutlets();
        largest();
        DUE.end();
    }

    private static void beginnings() {
        SeepingRock x = rock(PORE, PORE, OUTLET, PORE);
        throats(x, 0, 1, 3, 1, 2, 4);
        DUE.is("18 no inlets", x.begin(), 0);
        DUE.is("18 no candidates", x.step(), SeepingRock.END);
        x.inlet(0, true);
        x.inlet(3, true);
        DUE.is("18 two inlets", x.begin(), 2);
        DUE.is("18 a step", x.step(), 0);
        DUE.is("18 in place of one", x.begin(), 2);
        DUE.is("18 no steps", x.many(2), 0);
        DUE.is("18 not filled now", x.now(1, 0), -1);
        DUE.is("18 by none now", x.now(1, 1), -1);
        DUE.is("18 the inlet", x.now(0, 0), 0);
        DUE.is("18 no throat of an inlet", x.now(0, 1), -1);
        x.inlet(3, false);
        x.trapping(true);
        DUE.is("18 filled with trapping", x.begin(), 1);
        DUE.is("18 cut off from the first", x.now(3, 2), 0);
        DUE.is("18 one lake", x.many(6), 1);
        x.step();
        x.step();
        x.begin();
        DUE.is("18 the lake anew", x.many(6), 1);
        DUE.is("18 its level anew", x.lake(0, 3), -1);
    }

    private static void steps() {
        SeepingRock x = rock(PORE, PORE, PORE, OUTLET);
        throats(x, 0, 1, 5, 0, 2, 3, 1, 3, 1, 2, 3, 9, 1, 2, 0);
        DUE.is("19 no run", x.step(), SeepingRock.STATE);
        x.shut(4, true);
        x.inlet(0, true);
        x.begin();
        DUE.is("19 least rank", x.step(), 1);
        DUE.is("19 not behind the last alone", x.step(), 0);
        DUE.is("19 a lesser one that came", x.step(), 2);
        DUE.is("19 end", x.step(), SeepingRock.END);
        DUE.is("19 an end changes nothing", x.many(2), 3);
        DUE.is("19 end again", x.step(), SeepingRock.END);
        x.shut(4, false);
        x.begin();
        x.step();
        DUE.is("19 the open one", x.step(), 4);
        x.trapping(false);
        DUE.is("19 no run any more", x.step(), SeepingRock.STATE);
        x = rock(PORE, PORE, PORE);
        throats(x, 1, 0, 0, 2, 1, 0, 0, 1, 0);
        x.inlet(0, true);
        x.begin();
        DUE.is("19 equal ones by number", x.step(), 0);
        DUE.is("19 none between filled ones", x.step(), 1);
        DUE.is("19 nothing left", x.step(), SeepingRock.END);
    }

    private static void widePores() {
        SeepingRock x = rock(PORE, WIDE, PORE, PORE, PORE);
        throats(x, 0, 1, 0, 0, 2, 1, 1, 3, 9, 1, 4, 8, 3, 4, 5);
        x.inlet(0, true);
        x.begin();
        DUE.is("wide: into it", x.step(), 0);
        DUE.is("wide: the least at it", x.step(), 3);
        DUE.is("wide: then the least of all", x.step(), 1);
        DUE.is("wide: not later on", x.step(), 4);
        x.inlet(1, true);
        x.inlet(0, false);
        x.begin();
        DUE.is("wide: not at step 0", x.step(), 0);
        DUE.is("wide: by rank", x.step(), 1);
        x = rock(WIDE, PORE, PORE, PORE);
        throats(x, 0, 1, 5, 2, 3, 1);
        x.inlet(0, true);
        x.inlet(2, true);
        x.begin();
        DUE.is("wide: nor as pore 0", x.step(), 1);
        x = rock(PORE, WIDE, PORE, PORE);
        throats(x, 0, 1, 0, 0, 2, 4, 0, 1, 2, 1, 3, 7);
        x.shut(3, true);
        x.inlet(0, true);
        x.begin();
        x.step();
        DUE.is("wide: none at it", x.step(), 1);
    }

    private static void lips() {
        SeepingRock x = rock(PORE, LIP, PORE, PORE, PORE, LIP);
        throats(x, 0, 1, 0, 0, 2, 1, 1, 3, 9, 1, 4, 8, 3, 4, 10, 1, 0, 11);
        x.inlet(0, true);
        x.begin();
        DUE.is("lip: into it", x.step(), 0);
        DUE.is("lip: the greatest at it", x.step(), 2);
        DUE.is("lip: then the least of all", x.step(), 1);
        DUE.is("lip: not later on", x.step(), 3);
        x.inlet(1, true);
        x.inlet(0, false);
        x.begin();
        DUE.is("lip: not at step 0", x.step(), 0);
        x = rock(LIP, PORE, PORE);
        throats(x, 0, 1, 0, 0, 2, 5);
        x.inlet(0, true);
        x.begin();
        DUE.is("lip: nor as pore 0", x.step(), 0);
        x = rock(PORE, LIP, PORE);
        throats(x, 0, 1, 0, 0, 2, 4);
        x.inlet(0, true);
        x.begin();
        x.step();
        DUE.is("lip: none at it", x.step(), 1);
    }

    private static void deadPores() {
        SeepingRock x = rock(PORE, DEAD, OUTLET, PORE);
        throats(x, 0, 1, 0, 1, 2, 1, 0, 3, 9, 3, 2, 8);
        x.inlet(0, true);
        x.begin();
        DUE.is("dead: it is filled", x.step(), 0);
        DUE.is("dead: it leads nowhere", x.step(), 2);
        DUE.is("dead: round it", x.step(), 3);
        x.inlet(1, true);
        x.inlet(0, false);
        x.begin();
        DUE.is("dead: as an inlet", x.step(), SeepingRock.END);
        DUE.is("dead: no candidates", x.many(7), 0);
        x.inlet(1, false);
        x.inlet(0, true);
        x.shut(3, true);
        x.trapping(true);
        x.begin();
        DUE.is("dead: oil flees over it", x.many(4), 1);
        DUE.is("dead: but not from behind", x.now(3, 2), 0);
        x.step();
        DUE.is("dead: nothing more is cut", x.many(4), 1);
        DUE.is("dead: nor opened", x.step(), SeepingRock.END);
    }

    private static void runs() {
        SeepingRock x = chain(6);
        DUE.is("20 no run", x.run(201), SeepingRock.STATE);
        x.begin();
        DUE.is("20 n = -1", x.run(-1), SeepingRock.NUMBER);
        DUE.is("20 n = 201", x.run(201), SeepingRock.NUMBER);
        DUE.is("20 n = 0", x.run(0), 0);
        DUE.is("20 n = 2", x.run(2), 2);
        DUE.is("20 steps", x.many(2), 2);
        DUE.is("20 as many as there are", x.run(200), 3);
        DUE.is("20 all steps", x.many(2), 5);
        DUE.is("20 at the end", x.run(1), 0);
        DUE.is("20 still there", x.step(), SeepingRock.END);
    }

    private static void undoing() {
        SeepingRock x = chain(6);
        DUE.is("21 no run", x.undo(0), SeepingRock.STATE);
        x.begin();
        DUE.is("21 no steps", x.undo(1), SeepingRock.NUMBER);
        DUE.is("21 none of none", x.undo(0), 0);
        x.run(4);
        DUE.is("21 n = -1", x.undo(-1), SeepingRock.NUMBER);
        DUE.is("21 n = 5", x.undo(5), SeepingRock.NUMBER);
        DUE.is("21 n = 0", x.undo(0), 4);
        DUE.is("21 unchanged", x.many(3), 5);
        DUE.is("21 n = 3", x.undo(3), 1);
        DUE.is("21 not filled", x.now(2, 0), -1);
        DUE.is("21 by none", x.now(2, 1), -1);
        DUE.is("21 still filled", x.now(1, 0), 1);
        DUE.is("21 not opened", x.opened(2), -1);
        DUE.is("21 still opened", x.opened(1), 0);
        DUE.is("21 goes on", x.step(), 1);
        DUE.is("21 all", x.undo(2), 0);
        DUE.is("21 the inlet stays", x.many(3), 1);
    }

    private static void undoneKinds() {
        for (int kind = WIDE; kind <= LIP; kind++) {
            SeepingRock x = rock(PORE, kind, PORE, PORE, PORE);
            throats(x, 0, 1, 0, 0, 2, 1, 1, 3, 8, 1, 4, 9);
            x.inlet(0, true);
            x.begin();
            x.step();
            int preferred = kind == WIDE ? 2 : 3;
            DUE.is("21 the kind counts", x.step(), preferred);
            DUE.is("21 another step", x.step(), 1);
            DUE.is("21 back to it", x.undo(2), 1);
            DUE.is("21 it is the last one left", x.step(), preferred);
            x.undo(2);
            DUE.is("21 at step 0 none is", x.step(), 0);
        }
    }

    private static void undoneLakes() {
        SeepingRock x = drained();
        x.begin();
        x.run(2);
        DUE.is("21 lakes", x.many(6), 2);
        x.undo(1);
        DUE.is("21 a lake is taken back", x.many(6), 1);
        DUE.is("21 its pore isn't cut", x.now(5, 2), -1);
        DUE.is("21 nor in a lake", x.now(5, 3), -1);
        DUE.is("21 no such lake", x.lake(1, 0), -2);
        DUE.is("21 the other stays", x.now(2, 3), 0);
        x.undo(1);
        DUE.is("21 none is left", x.many(4), 0);
        x.run(3);
        DUE.is("21 they come again", x.many(6), 2);
        DUE.is("21 as before", x.lake(1, 2), 5);
    }

    private static void counts() {
        SeepingRock x = drained();
        DUE.is("22 pores", x.many(0), 6);
        DUE.is("22 throats", x.many(1), 7);
        for (int what = 2; what < 8; what++) {
            DUE.is("22 without a run", x.many(what), SeepingRock.STATE);
        }
        DUE.is("22 told rows without a run", x.many(8), 0);
        DUE.is("22 what = 9 without a run", x.many(9), SeepingRock.NUMBER);
        DUE.is("22 what = -1 without a run", x.many(-1), SeepingRock.NUMBER);
        x.begin();
        many(x, 0, 1, 0, 5, 0, 2);
        x.step();
        many(x, 1, 2, 1, 3, 1, 2);
        x.step();
        many(x, 2, 3, 2, 1, 2, 1);
        x.step();
        many(x, 3, 4, 2, 0, 2, 0);
        x.claim(1);
        x.claim(1);
        DUE.is("22 told rows", x.many(8), 2);
        DUE.is("22 what = 9", x.many(9), SeepingRock.NUMBER);
        DUE.is("22 what = -1", x.many(-1), SeepingRock.NUMBER);
    }

    private static void many(SeepingRock x, int... due) {
        for (int k = 0; k < due.length; k++) {
            DUE.is("22 many(" + (k + 2) + ")", x.many(k + 2), due[k]);
        }
    }

    private static void openings() {
        SeepingRock x = drained();
        DUE.is("23 no run", x.opened(1), -1);
        x.begin();
        DUE.is("23 no steps", x.opened(1), -1);
        x.run(3);
        DUE.is("23 first", x.opened(1), 0);
        DUE.is("23 second", x.opened(2), 2);
        DUE.is("23 third", x.opened(3), 3);
        DUE.is("23 step 0", x.opened(0), -1);
        DUE.is("23 below", x.opened(-1), -1);
        DUE.is("23 beyond", x.opened(4), -1);
        DUE.is("23 far beyond", x.opened(Integer.MAX_VALUE), -1);
        x.shut(0, false);
        DUE.is("23 no run any more", x.opened(1), -1);
    }

    private static void pores() {
        SeepingRock x = drained();
        DUE.is("24 no run", x.now(0, 0), SeepingRock.STATE);
        DUE.is("24 STATE ahead of NUMBER", x.now(9, 9), SeepingRock.STATE);
        x.begin();
        x.run(3);
        int[][] due = {{0, -1, -1, -1}, {1, 0, -1, -1}, {-1, -1, 1, 0}, {2, 2, -1, -1}, {3, 3, -1, -1}, {-1, -1, 2, 1}};
        for (int p = 0; p < 6; p++) {
            for (int what = 0; what < 4; what++) {
                DUE.is("24 now(" + p + ", " + what + ")", x.now(p, what), due[p][what]);
            }
        }
        DUE.is("24 no such pore", x.now(6, 0), -2);
        DUE.is("24 below none", x.now(-1, 0), -2);
        DUE.is("24 what = 4", x.now(0, 4), -2);
        DUE.is("24 what = -1", x.now(0, -1), -2);
    }

    private static void fronts() {
        SeepingRock x = drained();
        DUE.is("25 no run", x.front(0), -1);
        x.begin();
        DUE.is("25 the first", x.front(0), 0);
        DUE.is("25 the second", x.front(1), 1);
        DUE.is("25 beyond", x.front(2), -1);
        DUE.is("25 below", x.front(-1), -1);
        x.step();
        DUE.is("25 none to a pore that is cut", x.front(0), 2);
        DUE.is("25 of greater rank", x.front(1), 5);
        DUE.is("25 no others", x.front(2), -1);
        x.run(2);
        DUE.is("25 none at the end", x.front(0), -1);
        x.undo(3);
        x.trapping(true);
        DUE.is("25 none behind a run", x.front(0), -1);
        x = rock(PORE, LIP, PORE, PORE);
        throats(x, 0, 1, 0, 1, 2, 5, 3, 1, 4, 0, 3, 3);
        x.inlet(0, true);
        x.begin();
        x.step();
        DUE.is("25 by rank behind a lip, too", x.front(0), 3);
        DUE.is("25 the next", x.front(1), 2);
        DUE.is("25 the one it opens", x.front(2), 1);
        DUE.is("25 many of them", x.many(7), 3);
        DUE.is("25 opened", x.step(), 1);
    }

    private static void lakes() {
        SeepingRock x = drained();
        DUE.is("26 no run", x.lake(0, 0), SeepingRock.STATE);
        x.begin();
        DUE.is("26 none yet", x.lake(0, 0), -2);
        x.run(3);
        lake(x, 0, 1, 1, 2, 1);
        lake(x, 1, 2, 1, 5, 1);
        DUE.is("26 no such lake", x.lake(2, 0), -2);
        DUE.is("26 below none", x.lake(-1, 0), -2);
        DUE.is("26 what = 4", x.lake(0, 4), -2);
        DUE.is("26 what = -1", x.lake(0, -1), -2);
        x.trapping(false);
        x.begin();
        x.run(200);
        DUE.is("26 without trapping", x.lake(0, 0), -2);
        DUE.is("26 all are filled", x.many(3), 6);
    }

    private static void lake(SeepingRock x, int l, int... due) {
        for (int what = 0; what < 4; what++) {
            DUE.is("26 lake(" + l + ", " + what + ")", x.lake(l, what), due[what]);
        }
    }

    private static void lakesAtOnce() {
        SeepingRock x = rock(PORE, PORE, DEAD, WIDE, LIP, PORE);
        throats(x, 1, 4, 0, 3, 2, 0, 5, 0, 0, 0, 1, 0, 3, 0, 0, 1, 2, 0);
        x.shut(5, true);
        x.inlet(0, true);
        x.trapping(true);
        x.begin();
        DUE.is("26 lakes of one step", x.many(6), 3);
        lake(x, 0, 0, 2, 1, -1);
        lake(x, 1, 0, 2, 2, -1);
        lake(x, 2, 0, 1, 5, -1);
        int[] due = {-1, 0, 1, 1, 0, 2};
        for (int p = 0; p < 6; p++) {
            DUE.is("26 lake of " + p, x.now(p, 3), due[p]);
        }
        DUE.is("26 nothing to open", x.step(), SeepingRock.END);
        x.shut(5, false);
        x.begin();
        DUE.is("26 two hang together now", x.many(6), 2);
        lake(x, 0, 0, 4, 1, -1);
    }

    private static void breakthroughs() {
        SeepingRock x = rock(PORE, PORE, OUTLET, OUTLET);
        throats(x, 0, 1, 0, 1, 2, 5, 1, 3, 4);
        x.inlet(0, true);
        DUE.is("27 no run", x.through(), SeepingRock.STATE);
        x.begin();
        DUE.is("27 none yet", x.through(), -1);
        x.step();
        DUE.is("27 still none", x.through(), -1);
        x.step();
        DUE.is("27 the first", x.through(), 2);
        x.step();
        DUE.is("27 still the first", x.through(), 2);
        x.undo(2);
        DUE.is("27 taken back", x.through(), -1);
        x.inlet(2, true);
        x.begin();
        DUE.is("27 an inlet is one", x.through(), 0);
        x.run(3);
        DUE.is("27 it stays the first", x.through(), 0);
    }

    /** PORE 0 and throat 0 are as good as others. */
    private static void lowestNumbers() {
        SeepingRock x = rock(OUTLET, PORE, PORE);
        throats(x, 0, 1, 0, 1, 2, 3);
        x.inlet(2, true);
        x.trapping(true);
        x.begin();
        DUE.is("26 all come to outlet 0", x.many(4), 0);
        x.run(2);
        DUE.is("27 outlet 0", x.through(), 2);
        x.undo(1);
        DUE.is("21 pore 0", x.now(0, 0), -1);
        DUE.is("27 outlet 0 is taken back", x.through(), -1);
        x.shut(0, true);
        x.pore(PORE);
        x.throat(3, 1);
        x.begin();
        DUE.is("26 not cut from itself", x.now(0, 2), -1);
        x = rock(PORE, PORE, OUTLET);
        throats(x, 0, 1, 0, 1, 2, 3);
        x.inlet(1, true);
        x.trapping(true);
        x.begin();
        DUE.is("26 pore 0 is cut", x.now(0, 2), 0);
        DUE.is("26 it is a lake", x.now(0, 3), 0);
        DUE.is("26 the least", x.lake(0, 2), 0);
    }

    private static void firstThroatAtKinds() {
        for (int kind = WIDE; kind <= LIP; kind++) {
            SeepingRock x = rock(PORE, kind, PORE, PORE, PORE);
            throats(x, 1, 2, kind == WIDE ? 5 : 7, 1, 3, 6, 0, 1, 0, 0, 4, 1);
            x.inlet(0, true);
            x.begin();
            DUE.is("19 into the kind", x.step(), 2);
            DUE.is("19 throat 0 at it", x.step(), 0);
        }
    }

    private static void cutAtFirst() {
        SeepingRock x = rock(PORE, PORE, OUTLET, PORE, PORE);
        throats(x, 0, 1, 4, 1, 2, 5, 0, 3, 1, 3, 4, 0);
        x.inlet(0, true);
        x.trapping(true);
        x.begin();
        DUE.is("26 cut at first", x.many(4), 2);
        x.run(2);
        DUE.is("24 the step stays", x.now(4, 2), 0);
        lake(x, 0, 0, 2, 3, -1);
        x.undo(2);
        DUE.is("21 what step 0 cut stays", x.many(4), 2);
        lake(x, 0, 0, 2, 3, -1);
    }

    /** Oil doesn't flee by an outlet that is FILLED. */
    private static void filledOutlets() {
        SeepingRock x = rock(PORE, OUTLET, PORE, OUTLET);
        throats(x, 0, 1, 0, 1, 2, 5, 2, 3, 9);
        x.inlet(1, true);
        x.inlet(3, true);
        x.trapping(true);
        x.begin();
        DUE.is("26 by no inlet", x.many(4), 2);
        DUE.is("26 two lakes", x.many(6), 2);
        x.inlet(1, false);
        x.inlet(3, false);
        x.inlet(0, true);
        x.shut(2, true);
        x.begin();
        DUE.is("26 by the outlet", x.many(4), 0);
        x.step();
        lake(x, 0, 1, 1, 2, 0);
        DUE.is("26 an outlet apart is not cut", x.now(3, 2), -1);
    }

    /** As many PORES, and steps, as there may be. */
    private static void largest() {
        SeepingRock x = chain(120);
        x.begin();
        DUE.is("20 all the way", x.run(200), 119);
        DUE.is("23 the last", x.opened(119), 118);
        DUE.is("23 no more", x.opened(120), -1);
        DUE.is("24 the last pore", x.now(119, 0), 119);
        DUE.is("33 all of them", x.copy(), 119);
        DUE.is("36 all of them", x.check(), -1);
        DUE.is("27 no outlet", x.through(), -1);
        DUE.is("21 the last", x.undo(1), 118);
        DUE.is("24 the last pore no more", x.now(119, 0), -1);
        x.trapping(true);
        x.begin();
        DUE.is("22 all are cut", x.many(4), 119);
        DUE.is("26 one lake", x.lake(0, 1), 119);
        for (int t = 0; t < 119; t++) {
            x.shut(t, true);
        }
        x.begin();
        DUE.is("26 as many lakes as may be", x.many(6), 119);
        DUE.is("26 the last of them", x.lake(118, 2), 119);
    }

    /**
     * PORE 2 is cut off by the first STEP, PORE 5 by the second, and the third fills the outlet.
     * The RANKS: throat 2, 0, 1, 5, 4, 6, 3.
     */
    private static SeepingRock drained() {
        SeepingRock x = rock(PORE, PORE, PORE, PORE, OUTLET, PORE);
        throats(x, 0, 1, 1, 0, 2, 5, 1, 3, 0, 3, 4, 9, 2, 1, 7, 5, 1, 6, 5, 3, 8);
        x.inlet(0, true);
        x.trapping(true);
        return x;
    }

    /** PORES in a row, the first of them an inlet. */
    private static SeepingRock chain(int pores) {
        SeepingRock x = rock(new int[pores]);
        for (int p = 1; p < pores; p++) {
            x.throat(p - 1, p);
        }
        x.inlet(0, true);
        return x;
    }

    private static SeepingRock rock(int... kinds) {
        SeepingRock x = new SeepingRock();
        for (int kind : kinds) {
            x.pore(kind);
        }
        return x;
    }

    /** Three numbers a throat: its PORES and its HINDRANCE. */
    private static void throats(SeepingRock x, int... rows) {
        for (int k = 0; k < rows.length; k += 3) {
            x.hinder(x.throat(rows[k], rows[k + 1]), rows[k + 2]);
        }
    }
}

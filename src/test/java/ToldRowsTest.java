/** Promises 32 to 36: told rows. */
public final class ToldRowsTest {
    private static final Due DUE = new Due("ToldRowsTest");

    public static void main(String[] args) {
        claims();
        copies();
        alterings();
        unclaimings();
        checks();
        checksOfTheRockAsItIs();
        DUE.end();
    }

    private static void claims() {
        SeepingRock x = star();
        DUE.is("32 no such throat", x.claim(3), SeepingRock.NUMBER);
        DUE.is("32 below none", x.claim(-1), SeepingRock.NUMBER);
        for (int k = 1; k <= 200; k++) {
            DUE.is("32 claim", x.claim(k % 3), k);
        }
        DUE.is("32 full", x.claim(0), SeepingRock.FULL);
        DUE.is("32 NUMBER ahead of FULL", x.claim(3), SeepingRock.NUMBER);
        DUE.is("32 as many as there were", x.many(8), 200);
        x.unclaim();
        x.shut(1, true);
        DUE.is("32 a shut one", x.claim(1), 1);
    }

    private static void copies() {
        SeepingRock x = star();
        DUE.is("33 no run", x.copy(), SeepingRock.STATE);
        x.claim(0);
        x.claim(0);
        x.claim(0);
        DUE.is("33 refused, they stay", x.many(8), 3);
        x.begin();
        x.run(2);
        DUE.is("33 copy", x.copy(), 2);
        DUE.is("33 as many", x.many(8), 2);
        DUE.is("33 just what is opened", x.check(), -1);
        x.claim(0);
        DUE.is("33 behind it the next", x.check(), -1);
        x.begin();
        DUE.is("33 of no steps", x.copy(), 0);
        DUE.is("33 nothing told", x.unclaim(), 0);
    }

    private static void alterings() {
        SeepingRock x = star();
        DUE.is("34 of nothing", x.alter(0, 0), SeepingRock.NUMBER);
        x.claim(2);
        x.claim(1);
        DUE.is("34 k = 2", x.alter(2, 0), SeepingRock.NUMBER);
        DUE.is("34 k = -1", x.alter(-1, 0), SeepingRock.NUMBER);
        DUE.is("34 t = 3", x.alter(0, 3), SeepingRock.NUMBER);
        DUE.is("34 t = -1", x.alter(0, -1), SeepingRock.NUMBER);
        DUE.is("34 unchanged", x.check(), -1);
        DUE.is("34 the same", x.alter(0, 2), 1);
        DUE.is("34 unchanged still", x.check(), -1);
        DUE.is("34 another", x.alter(1, 0), 1);
        DUE.is("34 not opened there", x.check(), 1);
        DUE.is("34 the first", x.alter(0, 1), 1);
        DUE.is("34 nor there", x.check(), 0);
    }

    private static void unclaimings() {
        SeepingRock x = star();
        DUE.is("35 of nothing", x.unclaim(), 0);
        x.claim(0);
        x.claim(0);
        DUE.is("35 of two", x.unclaim(), 2);
        DUE.is("35 nothing told", x.many(8), 0);
        DUE.is("35 of nothing again", x.unclaim(), 0);
        DUE.is("35 no such one", x.alter(0, 0), SeepingRock.NUMBER);
        DUE.is("35 from the first on", x.claim(1), 1);
    }

    private static void checks() {
        SeepingRock x = star();
        DUE.is("36 of nothing", x.check(), -1);
        x.claim(2);
        DUE.is("36 without a run", x.check(), -1);
        DUE.is("36 no run comes by it", x.step(), SeepingRock.STATE);
        x.claim(1);
        x.claim(0);
        DUE.is("36 all of it", x.check(), -1);
        x.claim(0);
        DUE.is("36 as it has ended by then", x.check(), 3);
        x.begin();
        x.run(2);
        DUE.is("36 begun anew", x.check(), 3);
        DUE.is("36 the run stays", x.many(2), 2);
        DUE.is("36 the front stays", x.front(0), 0);
        DUE.is("36 the last pore stays", x.now(2, 0), 2);
        x.inlet(0, false);
        DUE.is("36 none filled", x.check(), 0);
        x.unclaim();
        DUE.is("36 nothing, none filled", x.check(), -1);
    }

    /** It knows the kinds, shut throats and trapping. */
    private static void checksOfTheRockAsItIs() {
        SeepingRock x = star();
        x.claim(2);
        x.claim(1);
        x.claim(0);
        x.trapping(true);
        DUE.is("36 all are cut", x.check(), 0);
        x.trapping(false);
        x.hinder(1, 9);
        DUE.is("36 another order", x.check(), 1);
        x.hinder(1, 2);
        DUE.is("36 the order again", x.check(), -1);
        x.shut(1, true);
        DUE.is("36 one is shut", x.check(), 1);
        x.shut(1, false);
        x.pore(0);
        x.throat(1, 4);
        DUE.is("36 a new one that opens later", x.check(), -1);
        x.throat(4, 3);
        DUE.is("36 a new one that opens ahead", x.check(), 1);
        x = new SeepingRock();
        for (int kind = 0; kind < 3; kind++) {
            x.pore(kind == 1 ? 3 : 0);
        }
        x.throat(0, 1);
        x.throat(1, 2);
        x.inlet(0, true);
        x.claim(0);
        DUE.is("36 into a dead one", x.check(), -1);
        x.claim(1);
        DUE.is("36 not out of it", x.check(), 1);
    }

    /** An inlet with three PORES round it; throats 2, 1, 0 open in this order. */
    private static SeepingRock star() {
        SeepingRock x = new SeepingRock();
        for (int p = 0; p < 4; p++) {
            x.pore(0);
        }
        for (int t = 0; t < 3; t++) {
            x.throat(0, t + 1);
            x.hinder(t, 3 - t);
        }
        x.inlet(0, true);
        return x;
    }
}

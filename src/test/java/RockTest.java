/** Promises 1 to 10: a new object and the rock. */
public final class RockTest {
    private static final Due DUE = new Due("RockTest");

    public static void main(String[] args) {
        newObject();
        pores();
        throats();
        hindrances();
        shutting();
        inlets();
        trapping();
        aboutThroats();
        ofPores();
        ranks();
        endsOfRuns();
        DUE.end();
    }

    private static void newObject() {
        SeepingRock x = new SeepingRock();
        DUE.is("1 pores", x.many(0), 0);
        DUE.is("1 throats", x.many(1), 0);
        DUE.is("1 told rows", x.many(8), 0);
        DUE.is("1 steps", x.many(2), SeepingRock.STATE);
        for (int c = 0; c < 6; c++) {
            DUE.is("1 lose", x.lose(c), SeepingRock.MISSING);
        }
        DUE.is("1 of", x.of(0, 0), SeepingRock.NUMBER);
        DUE.is("1 about", x.about(0, 0), SeepingRock.NUMBER);
        DUE.is("1 unclaim", x.unclaim(), 0);
        DUE.is("1 step", x.step(), SeepingRock.STATE);
        DUE.is("1 trapping is off", x.trapping(false), 0);
        DUE.is("1 check of nothing", x.check(), -1);
        DUE.is("1 begin without pores", x.begin(), 0);
        DUE.is("1 step without pores", x.step(), SeepingRock.END);
    }

    private static void pores() {
        SeepingRock x = new SeepingRock();
        DUE.is("2 pore(-1)", x.pore(-1), SeepingRock.NUMBER);
        DUE.is("2 pore(5)", x.pore(5), SeepingRock.NUMBER);
        DUE.is("2 pore(MIN)", x.pore(Integer.MIN_VALUE), SeepingRock.NUMBER);
        for (int p = 0; p < 120; p++) {
            DUE.is("2 pore", x.pore(p % 5), p);
        }
        DUE.is("2 121st", x.pore(0), SeepingRock.FULL);
        DUE.is("2 121st of no kind", x.pore(5), SeepingRock.NUMBER);
        DUE.is("2 pores", x.many(0), 120);
        for (int p = 0; p < 120; p++) {
            DUE.is("2 kind", x.of(p, 0), p % 5);
            DUE.is("2 no inlet at first", x.of(p, 1), 0);
        }
    }

    private static void throats() {
        SeepingRock x = rock(3, 0);
        DUE.is("3 throat(-1, 0)", x.throat(-1, 0), SeepingRock.NUMBER);
        DUE.is("3 throat(0, -1)", x.throat(0, -1), SeepingRock.NUMBER);
        DUE.is("3 throat(3, 0)", x.throat(3, 0), SeepingRock.NUMBER);
        DUE.is("3 throat(0, 3)", x.throat(0, 3), SeepingRock.NUMBER);
        DUE.is("3 throat(1, 1)", x.throat(1, 1), SeepingRock.NUMBER);
        for (int t = 0; t < 300; t++) {
            DUE.is("3 throat", x.throat(t % 3, (t + 1) % 3), t);
        }
        DUE.is("3 301st", x.throat(0, 1), SeepingRock.FULL);
        DUE.is("3 301st to itself", x.throat(0, 0), SeepingRock.NUMBER);
        DUE.is("3 throats", x.many(1), 300);
        DUE.is("3 open at first", x.about(299, 3), 1);
        DUE.is("3 hindrance at first", x.about(299, 2), 0);
        DUE.is("3 last rank", x.ranked(299), 299);
        DUE.is("3 beyond the last rank", x.ranked(300), -1);
    }

    private static void hindrances() {
        SeepingRock x = chain();
        DUE.is("4 none such", x.hinder(3, 1), SeepingRock.NUMBER);
        DUE.is("4 below none", x.hinder(-1, 1), SeepingRock.NUMBER);
        DUE.is("4 v below 0", x.hinder(0, -1), SeepingRock.NUMBER);
        DUE.is("4 v too great", x.hinder(0, 1000000001), SeepingRock.NUMBER);
        DUE.is("4 unchanged", x.about(0, 2), 0);
        DUE.is("4 greatest", x.hinder(0, 1000000000), 1);
        DUE.is("4 told", x.about(0, 2), 1000000000);
        DUE.is("4 the same again", x.hinder(0, 1000000000), 1);
        DUE.is("4 least", x.hinder(0, 0), 1);
        x.shut(1, true);
        DUE.is("4 of a shut one", x.hinder(1, 7), 1);
        DUE.is("4 it stays shut", x.about(1, 3), 0);
        DUE.is("4 its hindrance", x.about(1, 2), 7);
        x.shut(1, false);
        DUE.is("4 it comes with its hindrance", x.about(1, 4), 2);
    }

    private static void shutting() {
        SeepingRock x = chain();
        DUE.is("5 none such", x.shut(3, true), SeepingRock.NUMBER);
        DUE.is("5 below none", x.shut(-1, false), SeepingRock.NUMBER);
        DUE.is("5 open already", x.shut(1, false), 0);
        DUE.is("5 shut", x.shut(1, true), 1);
        DUE.is("5 shut already", x.shut(1, true), 0);
        DUE.is("5 is shut", x.about(1, 3), 0);
        DUE.is("5 later ranks", x.about(2, 4), 1);
        DUE.is("5 open", x.shut(1, false), 1);
        DUE.is("5 is open", x.about(1, 3), 1);
        DUE.is("5 ranks again", x.about(2, 4), 2);
    }

    private static void inlets() {
        SeepingRock x = rock(2, 0);
        DUE.is("6 none such", x.inlet(2, true), SeepingRock.NUMBER);
        DUE.is("6 below none", x.inlet(-1, true), SeepingRock.NUMBER);
        DUE.is("6 not one already", x.inlet(1, false), 0);
        DUE.is("6 one", x.inlet(1, true), 1);
        DUE.is("6 one already", x.inlet(1, true), 0);
        DUE.is("6 told", x.of(1, 1), 1);
        DUE.is("6 filled", x.begin(), 1);
        DUE.is("6 no more", x.inlet(1, false), 1);
        DUE.is("6 none filled", x.begin(), 0);
    }

    private static void trapping() {
        SeepingRock x = rock(2, 0);
        DUE.is("7 off already", x.trapping(false), 0);
        DUE.is("7 on", x.trapping(true), 1);
        DUE.is("7 on already", x.trapping(true), 0);
        x.begin();
        DUE.is("7 without outlets all are cut", x.many(4), 2);
        DUE.is("7 off", x.trapping(false), 1);
        x.begin();
        DUE.is("7 none is cut", x.many(4), 0);
    }

    private static void aboutThroats() {
        SeepingRock x = rock(3, 0);
        x.throat(2, 1);
        x.throat(0, 2);
        x.hinder(0, 9);
        DUE.is("8 first pore", x.about(0, 0), 2);
        DUE.is("8 second pore", x.about(0, 1), 1);
        DUE.is("8 hindrance", x.about(0, 2), 9);
        DUE.is("8 open", x.about(0, 3), 1);
        DUE.is("8 rank", x.about(0, 4), 1);
        x.shut(0, true);
        DUE.is("8 shut", x.about(0, 3), 0);
        DUE.is("8 rank of a shut one", x.about(0, 4), -2);
        DUE.is("8 hindrance of a shut one", x.about(0, 2), 9);
        DUE.is("8 none such", x.about(2, 0), SeepingRock.NUMBER);
        DUE.is("8 below none", x.about(-1, 0), SeepingRock.NUMBER);
        DUE.is("8 what = 5", x.about(0, 5), SeepingRock.NUMBER);
        DUE.is("8 what = -1", x.about(0, -1), SeepingRock.NUMBER);
    }

    private static void ofPores() {
        SeepingRock x = chain();
        x.inlet(0, true);
        x.shut(0, true);
        DUE.is("9 kind", x.of(1, 0), 0);
        DUE.is("9 inlet", x.of(0, 1), 1);
        DUE.is("9 no inlet", x.of(1, 1), 0);
        DUE.is("9 throats at the end", x.of(0, 2), 1);
        DUE.is("9 throats, a shut one too", x.of(1, 2), 2);
        DUE.is("9 a new pore has none", x.of(x.pore(2), 2), 0);
        DUE.is("9 none such", x.of(5, 0), SeepingRock.NUMBER);
        DUE.is("9 below none", x.of(-1, 0), SeepingRock.NUMBER);
        DUE.is("9 what = 3", x.of(0, 3), SeepingRock.NUMBER);
        DUE.is("9 what = -1", x.of(0, -1), SeepingRock.NUMBER);
        x.throat(4, 0);
        DUE.is("9 one more at each end", x.of(0, 2) * 10 + x.of(4, 2), 21);
    }

    private static void ranks() {
        SeepingRock x = rock(2, 0);
        DUE.is("10 of no throats", x.ranked(0), -1);
        for (int t = 0; t < 5; t++) {
            x.throat(0, 1);
        }
        int[] values = {5, 3, 5, 0, 3};
        for (int t = 0; t < 5; t++) {
            x.hinder(t, values[t]);
        }
        order(x, 3, 1, 4, 0, 2);
        x.shut(4, true);
        order(x, 3, 1, 0, 2);
        x.hinder(4, 0);
        order(x, 3, 1, 0, 2);
        x.hinder(3, 1000000000);
        order(x, 1, 0, 2, 3);
        x.shut(4, false);
        order(x, 4, 1, 0, 2, 3);
        DUE.is("10 below none", x.ranked(-1), -1);
        DUE.is("10 far beyond", x.ranked(Integer.MAX_VALUE), -1);
    }

    private static void order(SeepingRock x, int... throats) {
        for (int r = 0; r < throats.length; r++) {
            DUE.is("10 ranked(" + r + ")", x.ranked(r), throats[r]);
            DUE.is("10 about(" + throats[r] + ", 4)", x.about(throats[r], 4), r);
        }
        DUE.is("10 beyond", x.ranked(throats.length), -1);
    }

    /** A RUN is over behind each of the seven calls that isn't refused, and goes on behind a refused one. */
    private static void endsOfRuns() {
        for (int call = 0; call < 7; call++) {
            SeepingRock x = chain();
            x.core(0, 2, 1);
            x.begin();
            refused(x, call);
            DUE.is("a run goes on behind a refused call " + call, x.many(2), 0);
            unchanging(x, call);
            DUE.is("a run is over behind call " + call, x.many(2), SeepingRock.STATE);
            DUE.is("it can begin again behind call " + call, x.begin(), 0);
        }
        SeepingRock x = chain();
        x.begin();
        x.core(0, 0, 1);
        x.cell(0, 0, 1, 0);
        x.claim(0);
        x.check();
        x.worst(0);
        x.tree(0);
        x.lose(0);
        DUE.is("a run goes on behind others", x.many(2), 0);
    }

    private static void refused(SeepingRock x, int call) {
        switch (call) {
            case 0: x.pore(9); break;
            case 1: x.throat(0, 0); break;
            case 2: x.hinder(0, -1); break;
            case 3: x.shut(9, true); break;
            case 4: x.inlet(9, true); break;
            case 5: x.pour(0, 0, 2, 0); break;
            default: break;
        }
    }

    private static void unchanging(SeepingRock x, int call) {
        switch (call) {
            case 0: x.pore(0); break;
            case 1: x.throat(0, 1); break;
            case 2: x.hinder(0, 0); break;
            case 3: x.shut(0, false); break;
            case 4: x.inlet(0, false); break;
            case 5: x.pour(0, 1, 0, 3); break;
            default: x.trapping(false); break;
        }
    }

    private static SeepingRock rock(int pores, int kind) {
        SeepingRock x = new SeepingRock();
        for (int p = 0; p < pores; p++) {
            x.pore(kind);
        }
        return x;
    }

    /** Four pores and three throats in a row. */
    private static SeepingRock chain() {
        SeepingRock x = rock(4, 0);
        for (int p = 0; p < 3; p++) {
            x.throat(p, p + 1);
        }
        return x;
    }
}

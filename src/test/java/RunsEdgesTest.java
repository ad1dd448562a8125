/** Boundary cases of Terms 2 and Promises 18 to 27; each test is named by the words that it holds. */
public final class RunsEdgesTest {
    private static final Sentences DOC = new Sentences("RunsEdgesTest");
    private static final int NUMBER = SeepingRock.NUMBER;
    private static final int STATE = SeepingRock.STATE;
    private static final int END = SeepingRock.END;
    private static final int PORE = 0;
    private static final int WIDE = 1;
    private static final int LIP = 2;
    private static final int DEAD = 3;
    private static final int OUTLET = 4;

    public static void main(String[] args) {
        DOC.holdAll(RunsEdgesTest.class, "Terms", "Promise 18", "Promise 19", "Promise 20", "Promise 21",
            "Promise 22", "Promise 23", "Promise 24", "Promise 25", "Promise 26", "Promise 27");
    }

    static void terms2ARunBeginsWithBegin() {
        DOC.of("Terms", "A RUN begins with begin()");
        SeepingRock x = Worlds.still();
        x.run(1);
        x.undo(0);
        x.copy();
        x.check();
        DOC.is("there is none ahead of it", x.step(), STATE);
        x.begin();
        DOC.is("there is one behind it", x.step(), 0);
        x.trapping(true);
        DOC.is("there is none again", x.step(), STATE);
        x.begin();
        DOC.is("it begins anew", x.many(2), 0);
    }

    static void terms2ThePoreBehindItIsFilledByIt() {
        DOC.of("Terms", "A STEP opens a CANDIDATE, and the PORE behind it is FILLED by it");
        SeepingRock x = Worlds.rock(PORE, PORE, PORE);
        Worlds.throats(x, 1, 0, 3, 1, 2, 4);
        for (int from = 0; from < 3; from += 2) {
            x.inlet(from, true);
            x.begin();
            DOC.is("step() from " + from, x.step(), from / 2);
            DOC.is("STEP of the PORE behind it", x.now(1, 0), 1);
            DOC.is("THROAT of the PORE behind it", x.now(1, 1), from / 2);
            DOC.is("the one that it comes from stays", x.now(from, 0), 0);
            DOC.is("no other one", x.now(2 - from, 0), -1);
            DOC.is("many(3)", x.many(3), 2);
            x.inlet(from, false);
        }
    }

    static void terms2OverBehindEachCallThatIsntRefused() {
        DOC.of("Terms", "it is over (there is none) behind each call that isn't refused (also one that changes nothing) of pore(), throat(), hinder(), shut(), pour(), inlet(), trapping()");
        over("pore(0)", 7, x -> x.pore(0));
        over("throat(0, 1)", 8, x -> x.throat(0, 1));
        over("hinder(0, 6)", 1, x -> x.hinder(0, 6));
        over("hinder(0, 5), as it is", 1, x -> x.hinder(0, 5));
        over("shut(0, true)", 1, x -> x.shut(0, true));
        over("shut(0, false), as it is", 0, x -> x.shut(0, false));
        over("shut(7, true), as it is", 0, x -> x.shut(7, true));
        over("pour of one", 1, x -> x.pour(0, 0, 1, 0));
        over("pour of none", 1, x -> x.pour(0, 0, 0, 0));
        over("pour of none at the ends", 1, x -> x.pour(0, 4, 0, 8));
        over("inlet(1, true)", 1, x -> x.inlet(1, true));
        over("inlet(1, false), as it is", 0, x -> x.inlet(1, false));
        over("inlet(0, true), as it is", 0, x -> x.inlet(0, true));
        over("trapping(false)", 1, x -> x.trapping(false));
        over("trapping(true), as it is", 0, x -> x.trapping(true));
    }

    private static void over(String call, long want, Sentences.Call c) {
        SeepingRock x = Worlds.running();
        DOC.is(call, c.on(x), want);
        DOC.is(call + ", then step()", x.step(), STATE);
        DOC.is(call + ", then run(1)", x.run(1), STATE);
        DOC.is(call + ", then undo(0)", x.undo(0), STATE);
        for (int what = 2; what < 8; what++) {
            DOC.is(call + ", then many(" + what + ")", x.many(what), STATE);
        }
        DOC.is(call + ", then opened(1)", x.opened(1), -1);
        DOC.is(call + ", then now(0, 0)", x.now(0, 0), STATE);
        DOC.is(call + ", then front(0)", x.front(0), -1);
        DOC.is(call + ", then lake(0, 0)", x.lake(0, 0), STATE);
        DOC.is(call + ", then through()", x.through(), STATE);
        DOC.is(call + ", then copy()", x.copy(), STATE);
    }

    static void terms2NotOverBehindARefusedOne() {
        DOC.of("Terms", "behind each call that isn't refused");
        DOC.refused("pore(5)", NUMBER, x -> x.pore(5));
        DOC.refusedIn(Worlds::allPores, "pore(0)", SeepingRock.FULL, x -> x.pore(0));
        DOC.refused("throat(0, 0)", NUMBER, x -> x.throat(0, 0));
        DOC.refusedIn(Worlds::allThroats, "throat(0, 1)", SeepingRock.FULL, x -> x.throat(0, 1));
        DOC.refused("hinder(8, 0)", NUMBER, x -> x.hinder(8, 0));
        DOC.refused("shut(8, true)", NUMBER, x -> x.shut(8, true));
        DOC.refused("pour(6, 0, 0, 0)", NUMBER, x -> x.pour(6, 0, 0, 0));
        DOC.refused("pour(5, 0, 0, 0)", SeepingRock.MISSING, x -> x.pour(5, 0, 0, 0));
        DOC.refused("pour(0, 0, 5, 0)", NUMBER, x -> x.pour(0, 0, 5, 0));
        DOC.refused("inlet(7, true)", NUMBER, x -> x.inlet(7, true));
    }

    static void terms2NotOverBehindOthers() {
        DOC.of("Terms", "of pore(), throat(), hinder(), shut(), pour(), inlet(), trapping()");
        SeepingRock x = Worlds.running();
        x.about(0, 0);
        x.of(0, 0);
        x.ranked(0);
        x.core(5, 5, 2);
        x.cell(5, 0, 1, 0);
        x.wild(5, 0, 0);
        x.splice(5, 0, 5, 1, 1);
        x.lose(5);
        x.told(0, 0);
        x.worst(4);
        x.way(4, 0);
        x.join(0, 4);
        x.tree(0);
        x.claim(0);
        x.alter(0, 1);
        x.check();
        x.unclaim();
        x.copy();
        x.claim(2);
        DOC.unchanged("all others", x, Worlds.running());
    }

    static void terms2AtItsStep0JustTheInletsAreFilled() {
        DOC.of("Terms", "At its STEP 0 just the INLETS are FILLED.");
        SeepingRock x = Worlds.rock(PORE, WIDE, LIP, DEAD, OUTLET);
        Worlds.throats(x, 0, 1, 0, 1, 2, 0, 2, 3, 0, 3, 4, 0);
        for (int p = 0; p < 5; p++) {
            x.inlet(p, true);
            DOC.is("begin()", x.begin(), p + 1);
            for (int q = 0; q < 5; q++) {
                DOC.is("now(" + q + ", 0)", x.now(q, 0), q <= p ? 0 : -1);
                DOC.is("now(" + q + ", 1)", x.now(q, 1), -1);
            }
        }
        DOC.is("all are: many(7)", x.many(7), 0);
    }

    static void terms2ACandidateIsOpen() {
        DOC.of("Terms", "A CANDIDATE is a THROAT that is OPEN");
        SeepingRock x = Worlds.chain(2);
        x.shut(0, true);
        x.begin();
        DOC.is("SHUT: many(7)", x.many(7), 0);
        DOC.is("SHUT: step()", x.step(), END);
        x.shut(0, false);
        x.begin();
        DOC.is("OPEN: many(7)", x.many(7), 1);
        DOC.is("OPEN: step()", x.step(), 0);
    }

    static void terms2FromAPoreThatIsFilledAndIsntDead() {
        DOC.of("Terms", "joins a PORE that is FILLED and isn't DEAD");
        for (int kind = 0; kind < 5; kind++) {
            SeepingRock x = Worlds.rock(kind, PORE, kind);
            Worlds.throats(x, 0, 1, 0, 1, 2, 1);
            x.inlet(0, true);
            x.begin();
            DOC.is("from kind " + kind, x.step(), kind == DEAD ? END : 0);
            x.inlet(0, false);
            x.inlet(2, true);
            x.begin();
            DOC.is("from kind " + kind + ", the other way round", x.step(), kind == DEAD ? END : 1);
            x.inlet(2, false);
            x.inlet(1, true);
            x.begin();
            DOC.is("to kind " + kind, x.run(200), 2);
        }
    }

    static void terms2ToOneThatIsNeitherFilledNorCut() {
        DOC.of("Terms", "to one that is neither FILLED nor CUT");
        SeepingRock x = Worlds.rock(PORE, PORE, OUTLET);
        Worlds.throats(x, 0, 1, 0, 0, 2, 1);
        x.inlet(0, true);
        x.trapping(true);
        x.begin();
        DOC.is("CUT: many(7)", x.many(7), 1);
        DOC.is("CUT: front(0)", x.front(0), 1);
        x.trapping(false);
        x.begin();
        DOC.is("not CUT: many(7)", x.many(7), 2);
        x.inlet(1, true);
        x.begin();
        DOC.is("FILLED: many(7)", x.many(7), 1);
        DOC.is("FILLED: front(0)", x.front(0), 1);
    }

    static void terms2ThePoreThatTheStepAheadFilled() {
        DOC.of("Terms", "if the PORE that the STEP ahead (behind undo() the last one left; not STEP 0) FILLED is WIDE, and some CANDIDATES are at it, of these the one of the least RANK; if it is a LIP, and some are at it, of these the one of the greatest RANK; else, of all CANDIDATES, the one of the least RANK");
        int[][] due = {{0, 1, 3}, {0, 2, 1}, {0, 4, 1}, {0, 1, 3}, {0, 1, 3}};
        for (int kind = 0; kind < 5; kind++) {
            SeepingRock x = preferring(kind);
            x.begin();
            for (int k = 0; k < 3; k++) {
                DOC.is("kind " + kind + ", step " + (k + 1), x.step(), due[kind][k]);
            }
        }
    }

    /** Throat 0 leads to pore 1, of that kind; throats 2, 5 and 4 (by RANK) from it, 1 and 3 from the inlet. */
    private static SeepingRock preferring(int kind) {
        SeepingRock x = Worlds.rock(PORE, kind, PORE, PORE, PORE, PORE, PORE);
        Worlds.throats(x, 0, 1, 0, 0, 2, 1, 1, 3, 6, 0, 4, 5, 1, 5, 8, 1, 6, 7);
        x.inlet(0, true);
        return x;
    }

    static void terms2OfTheseTheOneMayBeThroat0() {
        DOC.of("Terms", "of these the one of the least RANK; if it is a LIP");
        for (int kind = WIDE; kind <= LIP; kind++) {
            SeepingRock x = Worlds.rock(PORE, kind, PORE, PORE, PORE);
            Worlds.throats(x, 1, 2, 6, 1, 3, kind == WIDE ? 7 : 5, 0, 1, 0, 0, 4, 1);
            x.inlet(0, true);
            x.begin();
            DOC.is("into kind " + kind, x.step(), 2);
            DOC.is("out of it", x.step(), 0);
        }
    }

    static void terms2BehindUndoTheLastOneLeft() {
        DOC.of("Terms", "behind undo() the last one left");
        for (int kind = WIDE; kind <= LIP; kind++) {
            SeepingRock x = preferring(kind);
            int preferred = kind == WIDE ? 2 : 4;
            x.begin();
            x.run(2);
            DOC.is("two behind it", x.step(), 1);
            DOC.is("undo(2)", x.undo(2), 1);
            DOC.is("it is the last one left", x.step(), preferred);
            DOC.is("undo(1)", x.undo(1), 1);
            DOC.is("it is again", x.step(), preferred);
            DOC.is("undo(0)", x.undo(0), 2);
            DOC.is("it isn't", x.step(), 1);
        }
    }

    static void terms2NotStep0() {
        DOC.of("Terms", "not STEP 0");
        for (int kind = WIDE; kind <= LIP; kind++) {
            SeepingRock x = Worlds.rock(kind, PORE, PORE, PORE, PORE);
            Worlds.throats(x, 0, 1, 5, 0, 2, 6, 3, 4, 1);
            x.inlet(0, true);
            x.inlet(3, true);
            x.begin();
            DOC.is("behind begin()", x.step(), 2);
            DOC.is("behind another STEP", x.step(), 0);
            x.undo(2);
            DOC.is("behind undo() of all", x.step(), 2);
            x = preferring(kind);
            x.begin();
            x.step();
            x.undo(1);
            DOC.is("behind undo() of that STEP itself", x.step(), 0);
            x.step();
            x.begin();
            DOC.is("behind begin() in place of one", x.step(), 0);
        }
    }

    static void terms2AndSomeCandidatesAreAtIt() {
        DOC.of("Terms", "and some CANDIDATES are at it");
        for (int kind = WIDE; kind <= LIP; kind++) {
            SeepingRock x = Worlds.rock(PORE, kind, PORE, PORE, PORE);
            Worlds.throats(x, 0, 1, 0, 1, 0, 1, 1, 4, 2, 0, 2, 5);
            x.inlet(0, true);
            x.inlet(4, true);
            x.begin();
            DOC.is("into it", x.step(), 0);
            DOC.is("at it are those to FILLED ones alone", x.step(), 3);
            x = Worlds.rock(PORE, kind, PORE, PORE, PORE, OUTLET);
            int beyond = kind == WIDE ? 1 : 9;
            Worlds.throats(x, 0, 1, 0, 1, 3, beyond, 1, 4, beyond, 0, 2, 5, 1, 5, 6, 2, 5, 7);
            x.inlet(0, true);
            x.inlet(4, true);
            x.trapping(true);
            x.begin();
            DOC.is("into it, which cuts one off", x.step(), 0);
            DOC.is("of those at it, none to a FILLED or CUT one", x.step(), 4);
            x = Worlds.rock(PORE, kind, PORE, PORE);
            Worlds.throats(x, 0, 1, 0, 0, 2, 5, 1, 3, 9);
            x.shut(2, true);
            x.inlet(0, true);
            x.begin();
            x.step();
            DOC.is("at it is a SHUT one alone", x.step(), 1);
        }
    }

    static void terms2WithoutCandidatesThereIsNoStep() {
        DOC.of("Terms", "Without CANDIDATES there is no STEP.");
        SeepingRock x = Worlds.ended();
        DOC.is("many(7)", x.many(7), 0);
        DOC.is("step()", x.step(), END);
        DOC.is("run(200)", x.run(200), 0);
        DOC.is("many(2)", x.many(2), 3);
        x = new SeepingRock();
        x.begin();
        DOC.is("of an empty rock: step()", x.step(), END);
        DOC.is("of an empty rock: run(1)", x.run(1), 0);
        DOC.is("of an empty rock: many(2)", x.many(2), 0);
    }

    static void terms2TrappingIsOffAtFirst() {
        DOC.of("Terms", "If TRAPPING is on (it is off at first)");
        SeepingRock x = Worlds.chain(3);
        x.begin();
        DOC.is("many(4)", x.many(4), 0);
        DOC.is("many(6)", x.many(6), 0);
        DOC.is("run(200)", x.run(200), 2);
    }

    static void terms2BehindBeginAndBehindEachStep() {
        DOC.of("Terms", "behind begin() and behind each STEP");
        SeepingRock x = Worlds.still();
        x.begin();
        int[][] due = {{-1, -1, -1, 0, -1, -1, 0}, {-1, -1, -1, 0, -1, -1, 0}, {-1, -1, -1, 0, -1, -1, 0},
            {-1, -1, -1, 0, -1, 3, 0}};
        for (int k = 0; k < 4; k++) {
            for (int p = 0; p < Worlds.PORES; p++) {
                DOC.is("behind STEP " + k + ", now(" + p + ", 2)", x.now(p, 2), due[k][p]);
            }
            x.step();
        }
        x = Worlds.still();
        x.begin();
        DOC.is("run(3)", x.run(3), 3);
        DOC.is("behind the last STEP of a run", x.now(5, 2), 3);
    }

    static void terms2OverPoresThatArentFilled() {
        DOC.of("Terms", "over PORES that aren't FILLED (DEAD ones, too), by OPEN THROATS, to an OUTLET that isn't FILLED (it itself, if it is one)");
        for (int kind = 0; kind < 4; kind++) {
            SeepingRock x = Worlds.rock(PORE, kind, OUTLET, PORE);
            Worlds.throats(x, 0, 1, 0, 1, 2, 0);
            x.trapping(true);
            x.begin();
            DOC.is("over kind " + kind, x.now(0, 2), -1);
            DOC.is("the OUTLET itself", x.now(2, 2), -1);
            DOC.is("one apart", x.now(3, 2), 0);
            x.inlet(1, true);
            x.begin();
            DOC.is("not over a FILLED one", x.now(0, 2), 0);
            x.inlet(1, false);
            x.shut(1, true);
            x.begin();
            DOC.is("not by a SHUT one", x.now(0, 2), 0);
            DOC.is("nor the one at it", x.now(1, 2), 0);
            DOC.is("an OUTLET alone isn't CUT", x.now(2, 2), -1);
            x.shut(1, false);
            x.inlet(2, true);
            x.begin();
            DOC.is("not to a FILLED OUTLET", x.now(1, 2), 0);
        }
        SeepingRock x = Worlds.rock(OUTLET, OUTLET, PORE);
        Worlds.throats(x, 0, 1, 0, 1, 2, 0);
        x.inlet(0, true);
        x.trapping(true);
        x.begin();
        DOC.is("by another OUTLET", x.many(4), 0);
        x.step();
        DOC.is("when all OUTLETS are FILLED", x.now(2, 2), 1);
    }

    static void terms2PoresThatArentFilledAndArentCut() {
        DOC.of("Terms", "PORES that aren't FILLED and aren't CUT, and from which one doesn't come");
        SeepingRock x = Worlds.rock(PORE, PORE, PORE, OUTLET);
        Worlds.throats(x, 0, 1, 0, 0, 2, 2, 1, 3, 1);
        x.inlet(0, true);
        x.trapping(true);
        x.begin();
        DOC.is("a FILLED one with no way isn't CUT", x.now(0, 2), -1);
        DOC.is("one behind it is", x.now(2, 2), 0);
        x.run(200);
        DOC.is("one that is CUT isn't CUT once more", x.now(2, 2), 0);
        DOC.is("nor in another LAKE", x.many(6), 1);
        DOC.is("FILLED ones aren't CUT when no OUTLET is left", x.many(4), 1);
    }

    static void terms2CutByThatStep() {
        DOC.of("Terms", "are CUT by that STEP");
        SeepingRock x = Worlds.rock(PORE, PORE, PORE, PORE, OUTLET);
        Worlds.throats(x, 0, 1, 0, 1, 2, 1, 2, 4, 2, 1, 3, 8);
        x.inlet(0, true);
        x.trapping(true);
        x.begin();
        for (int step = 0; step <= 3; step++) {
            DOC.is("PORE 3, behind STEP " + step, x.now(3, 2), step == 0 ? -1 : 1);
            DOC.is("PORE 2, behind STEP " + step, x.now(2, 2), -1);
            x.step();
        }
    }

    static void terms2OfThePoresThatAreCutByOneStep() {
        DOC.of("Terms", "Of the PORES that are CUT by one STEP");
        SeepingRock x = Worlds.rock(PORE, PORE, PORE, PORE, OUTLET, PORE);
        Worlds.throats(x, 0, 1, 0, 1, 4, 1, 1, 3, 2, 1, 2, 3, 3, 5, 4);
        x.inlet(0, true);
        x.trapping(true);
        x.begin();
        lakes(x, -1, -1, -1, -1, -1, -1);
        x.step();
        lakes(x, -1, -1, 0, 1, -1, 1);
        DOC.is("two by one STEP: the first's", x.lake(0, 0), 1);
        DOC.is("two by one STEP: the second's", x.lake(1, 0), 1);
        DOC.is("how many in the second", x.lake(1, 1), 2);
    }

    static void terms2HangTogetherByOpenThroatsOverEachOther() {
        DOC.of("Terms", "those that hang together by OPEN THROATS over each other are one LAKE");
        SeepingRock x = Worlds.rock(PORE, PORE, PORE, PORE, PORE);
        Worlds.throats(x, 0, 1, 0, 1, 2, 0, 3, 4, 0, 2, 3, 0);
        x.trapping(true);
        x.begin();
        lakes(x, 0, 0, 0, 0, 0);
        x.shut(3, true);
        x.begin();
        lakes(x, 0, 0, 0, 1, 1);
        x.inlet(1, true);
        x.begin();
        lakes(x, 0, -1, 1, 2, 2);
        x.shut(3, false);
        x.begin();
        lakes(x, 0, -1, 1, 1, 1);
    }

    private static void lakes(SeepingRock x, int... due) {
        int most = -1;
        for (int p = 0; p < due.length; p++) {
            DOC.is("now(" + p + ", 3)", x.now(p, 3), due[p]);
            most = Math.max(most, due[p]);
        }
        DOC.is("many(6)", x.many(6), most + 1);
        DOC.is("lake(" + (most + 1) + ", 0)", x.lake(most + 1, 0), -2);
    }

    static void terms2NumberedByTheirStepsThenByTheirLeastPores() {
        DOC.of("Terms", "LAKES are numbered from 0 on, by their STEPS, then by their least PORES.");
        SeepingRock x = Worlds.rock(PORE, PORE, PORE, PORE, PORE, OUTLET);
        Worlds.throats(x, 4, 0, 9, 4, 1, 8, 3, 4, 7, 2, 3, 6, 0, 5, 5, 1, 5, 4);
        x.inlet(3, true);
        x.trapping(true);
        x.begin();
        lakes(x, -1, -1, 0, -1, -1, -1);
        DOC.is("step()", x.step(), 2);
        lakes(x, -1, -1, 0, -1, -1, -1);
        DOC.is("step()", x.step(), 1);
        DOC.is("step()", x.step(), 5);
        lakes(x, 1, -1, 0, -1, -1, -1);
        DOC.is("the later has the lesser PORE", x.lake(1, 2), 0);
        DOC.is("the earlier has the greater one", x.lake(0, 2), 2);
        DOC.is("its STEP", x.lake(0, 0), 0);
        DOC.is("the later STEP", x.lake(1, 0), 3);
    }

    static void terms2LevelMinus1IfThereWasNone() {
        DOC.of("Terms", "LEVEL of a LAKE: the greatest RANK of a THROAT opened by its STEP or any one ahead of it; -1 if there was none.");
        SeepingRock x = Worlds.ended();
        DOC.is("CUT by STEP 0", x.lake(0, 3), -1);
        DOC.is("its own STEP's is the greatest", x.lake(1, 3), 3);
        x = Worlds.rock(PORE, PORE, PORE, OUTLET, PORE);
        Worlds.throats(x, 0, 1, 9, 1, 2, 3, 2, 3, 1, 2, 4, 5);
        x.inlet(0, true);
        x.trapping(true);
        x.begin();
        x.run(200);
        DOC.is("one ahead has the greatest", x.lake(0, 3), 3);
        DOC.is("its STEP", x.lake(0, 0), 2);
        x.undo(2);
        x.step();
        DOC.is("taken back and come again", x.lake(0, 3), 3);
        x = Worlds.rock(PORE, OUTLET, PORE);
        Worlds.throats(x, 0, 1, 0, 1, 2, 5);
        x.inlet(0, true);
        x.trapping(true);
        x.begin();
        x.step();
        DOC.is("RANK 0", x.lake(0, 3), 0);
    }

    static void promise18HowManyPoresAreFilled() {
        DOC.of("Promise 18", "how many PORES are FILLED.");
        DOC.is("of no PORES", new SeepingRock().begin(), 0);
        DOC.is("without INLETS", Worlds.rock(PORE).begin(), 0);
        SeepingRock x = Worlds.rock(new int[120]);
        for (int p = 0; p < 120; p++) {
            x.inlet(p, true);
        }
        x.trapping(true);
        DOC.is("of 120 INLETS", x.begin(), 120);
        DOC.is("none is CUT", x.many(4), 0);
        DOC.is("step()", x.step(), END);
    }

    static void promise18InPlaceOfOneThatWas() {
        DOC.of("Promise 18", "A RUN begins (in place of one that was)");
        for (SeepingRock x : new SeepingRock[] {Worlds.still(), Worlds.running(), Worlds.ended()}) {
            DOC.is("begin()", x.begin(), 1);
            DOC.is("many(2)", x.many(2), 0);
            DOC.is("many(3)", x.many(3), 1);
            DOC.is("many(4)", x.many(4), 2);
            DOC.is("many(6)", x.many(6), 1);
            DOC.is("opened(1)", x.opened(1), -1);
            DOC.is("now(1, 0)", x.now(1, 0), -1);
            DOC.is("now(1, 1)", x.now(1, 1), -1);
            DOC.is("now(5, 2)", x.now(5, 2), -1);
            DOC.is("undo(1)", x.undo(1), NUMBER);
            x.run(Worlds.STEPS);
            DOC.unchanged("what was", x, Worlds.running());
        }
    }

    static void promise19TheThroatThatItOpens() {
        DOC.of("Promise 19", "A STEP: the THROAT that it opens.");
        SeepingRock x = Worlds.still();
        x.begin();
        for (int t = 0; t < 3; t++) {
            DOC.is("step()", x.step(), t);
            DOC.is("many(2)", x.many(2), t + 1);
        }
        DOC.is("step() at the end", x.step(), END);
    }

    static void promise19StateThereIsNoRun() {
        DOC.of("Promise 19", "STATE: there is no RUN");
        DOC.refusedIn(Worlds::empty, "step() of a new object", STATE, x -> x.step());
        DOC.refusedIn(Worlds::still, "step()", STATE, x -> x.step());
    }

    static void promise19End() {
        DOC.of("Promise 19", "END.");
        DOC.refusedIn(Worlds::ended, "step()", END, x -> x.step());
        SeepingRock x = Worlds.ended();
        x.step();
        DOC.is("again", x.step(), END);
        DOC.is("many(2)", x.many(2), 3);
        DOC.is("undo(1)", x.undo(1), 2);
        DOC.is("from there on", x.step(), 2);
    }

    static void promise20NStepsOrAsManyAsThereAre() {
        DOC.of("Promise 20", "n STEPS, or as many as there are: how many.");
        for (int n : new int[] {0, 1, 118, 119, 120, 199, 200}) {
            SeepingRock x = Worlds.chain(120);
            x.begin();
            DOC.is("run(" + n + ") of 119", x.run(n), Math.min(n, 119));
            DOC.is("many(2)", x.many(2), Math.min(n, 119));
            DOC.is("the rest", x.run(200), 119 - Math.min(n, 119));
            DOC.is("none is left", x.run(200), 0);
        }
        DOC.is("run(1) at the end", Worlds.ended().run(1), 0);
        DOC.refusedIn(Worlds::running, "run(0)", 0, x -> x.run(0));
        DOC.refusedIn(Worlds::ended, "run(200)", 0, x -> x.run(200));
    }

    static void promise20StateThereIsNoRun() {
        DOC.of("Promise 20", "STATE: there is no RUN; NUMBER: n isn't 0 to 200.");
        for (int n : new int[] {0, 1, 200, -1, 201, Integer.MIN_VALUE, Integer.MAX_VALUE}) {
            DOC.refusedIn(Worlds::empty, "run(" + n + ") of a new object", STATE, x -> x.run(n));
            DOC.refusedIn(Worlds::still, "run(" + n + ")", STATE, x -> x.run(n));
        }
    }

    static void promise20NumberNIsnt0To200() {
        DOC.of("Promise 20", "NUMBER: n isn't 0 to 200.");
        for (int n : Sentences.outside(0, 200)) {
            DOC.refusedInRuns("run(" + n + ")", NUMBER, x -> x.run(n));
        }
    }

    static void promise21TheLatestNStepsAreTakenBack() {
        DOC.of("Promise 21", "The latest n STEPS are taken back, with what they FILLED and CUT: how many STEPS are left.");
        for (int n = 0; n <= 3; n++) {
            SeepingRock x = Worlds.ended();
            SeepingRock y = Worlds.still();
            y.begin();
            y.run(3 - n);
            DOC.is("undo(" + n + ") of 3", x.undo(n), 3 - n);
            DOC.unchanged("what the others did: undo(" + n + ")", x, y);
        }
        SeepingRock x = Worlds.chain(120);
        x.begin();
        x.run(200);
        DOC.is("undo(119) of 119", x.undo(119), 0);
        DOC.is("many(3)", x.many(3), 1);
        DOC.is("undo(0) of 0", x.undo(0), 0);
        DOC.is("run(200)", x.run(200), 119);
        DOC.is("undo(118)", x.undo(118), 1);
        DOC.is("undo(1)", x.undo(1), 0);
    }

    static void promise21WhatStep0CutStays() {
        DOC.of("Promise 21", "with what they FILLED and CUT");
        SeepingRock x = Worlds.ended();
        DOC.is("undo(3)", x.undo(3), 0);
        DOC.is("many(6)", x.many(6), 1);
        DOC.is("now(3, 2)", x.now(3, 2), 0);
        DOC.is("now(3, 3)", x.now(3, 3), 0);
        DOC.is("now(5, 2)", x.now(5, 2), -1);
        DOC.is("now(5, 3)", x.now(5, 3), -1);
        DOC.is("lake(0, 1)", x.lake(0, 1), 2);
        DOC.is("lake(1, 0)", x.lake(1, 0), -2);
        DOC.is("the INLET stays", x.now(0, 0), 0);
        DOC.is("the OUTLET is FILLED no more", x.through(), -1);
    }

    static void promise21Pore0Throat0AndLake0AreTakenBack() {
        DOC.of("Promise 21", "with what they FILLED and CUT");
        SeepingRock x = Worlds.rock(PORE, PORE, OUTLET, PORE);
        Worlds.throats(x, 0, 1, 0, 0, 2, 1, 0, 3, 2);
        x.inlet(1, true);
        x.trapping(true);
        x.begin();
        DOC.is("step()", x.step(), 0);
        DOC.is("pore 3 is CUT", x.now(3, 2), 1);
        DOC.is("undo(1)", x.undo(1), 0);
        DOC.is("pore 0 isn't FILLED", x.now(0, 0), -1);
        DOC.is("nor by throat 0", x.now(0, 1), -1);
        DOC.is("pore 3 isn't CUT", x.now(3, 2), -1);
        DOC.is("lake 0 is none", x.lake(0, 0), -2);
        DOC.is("many(6)", x.many(6), 0);
        DOC.is("step() again", x.step(), 0);
        DOC.is("lake 0 again", x.lake(0, 0), 1);
        DOC.is("many(6) again", x.many(6), 1);
    }

    static void promise21StateThereIsNoRun() {
        DOC.of("Promise 21", "STATE: there is no RUN; NUMBER: n isn't 0 to how many STEPS there were.");
        for (int n : new int[] {0, 1, -1, Integer.MIN_VALUE, Integer.MAX_VALUE}) {
            DOC.refusedIn(Worlds::empty, "undo(" + n + ") of a new object", STATE, x -> x.undo(n));
            DOC.refusedIn(Worlds::still, "undo(" + n + ")", STATE, x -> x.undo(n));
        }
    }

    static void promise21NumberNIsnt0ToHowManyStepsThereWere() {
        DOC.of("Promise 21", "NUMBER: n isn't 0 to how many STEPS there were.");
        for (int n : Sentences.outside(0, Worlds.STEPS)) {
            DOC.refusedIn(Worlds::running, "undo(" + n + ")", NUMBER, x -> x.undo(n));
        }
        for (int n : Sentences.outside(0, 3)) {
            DOC.refusedIn(Worlds::ended, "undo(" + n + ") at the end", NUMBER, x -> x.undo(n));
        }
        SeepingRock x = Worlds.still();
        x.begin();
        DOC.is("undo(1) of none", x.undo(1), NUMBER);
        DOC.is("undo(0) of none", x.undo(0), 0);
    }

    static void promise22HowMany() {
        DOC.of("Promise 22", "what = 0 PORES, 1 THROATS, 2 STEPS, 3 FILLED PORES, 4 CUT ones, 5 others, 6 LAKES, 7 CANDIDATES");
        int[] running = {7, 8, 2, 3, 2, 2, 1, 2, 3};
        int[] ended = {7, 8, 3, 4, 3, 0, 2, 0, 3};
        for (int what = 0; what < 9; what++) {
            int asked = what;
            DOC.refusedIn(Worlds::running, "many(" + what + ")", running[what], x -> x.many(asked));
            DOC.refusedIn(Worlds::ended, "many(" + what + ") at the end", ended[what], x -> x.many(asked));
        }
    }

    static void promise22AsManyAsMayBe() {
        DOC.of("Promise 22", "How many");
        SeepingRock x = Worlds.allThroats();
        x.undo(1);
        DOC.is("THROATS", x.many(1), 300);
        DOC.is("CANDIDATES", x.many(7), 150);
        x = Worlds.rock(new int[120]);
        x.begin();
        DOC.is("others", x.many(5), 120);
        x.trapping(true);
        x.begin();
        DOC.is("PORES", x.many(0), 120);
        DOC.is("CUT ones", x.many(4), 120);
        DOC.is("LAKES", x.many(6), 120);
        DOC.is("no others", x.many(5), 0);
        x = Worlds.chain(120);
        x.begin();
        x.run(200);
        DOC.is("STEPS", x.many(2), 119);
        DOC.is("FILLED ones", x.many(3), 120);
        DOC.is("THROATS of THE TOLD ROWS", Worlds.allTold().many(8), 200);
        x = Worlds.rock(PORE, PORE);
        for (int t = 0; t < 300; t++) {
            x.throat(0, 1);
        }
        x.inlet(1, true);
        x.begin();
        DOC.is("CANDIDATES between two", x.many(7), 300);
        DOC.is("front(299)", x.front(299), 299);
        DOC.is("front(300)", x.front(300), -1);
        x.step();
        DOC.is("none behind a STEP", x.many(7), 0);
    }

    static void promise22StateWithoutOne() {
        DOC.of("Promise 22", "(2 to 7: of the RUN; STATE without one)");
        for (int what = 2; what < 8; what++) {
            int asked = what;
            DOC.refusedIn(Worlds::still, "many(" + what + ")", STATE, x -> x.many(asked));
            DOC.refusedIn(Worlds::empty, "many(" + what + ") of a new object", STATE, x -> x.many(asked));
        }
        DOC.is("many(0)", Worlds.still().many(0), 7);
        DOC.is("many(1)", Worlds.still().many(1), 8);
        DOC.is("many(8)", Worlds.still().many(8), 3);
    }

    static void promise22NumberForAnotherWhat() {
        DOC.of("Promise 22", "NUMBER for another what.");
        for (int what : Sentences.outside(0, 8)) {
            DOC.refused("many(" + what + ")", NUMBER, x -> x.many(what));
            DOC.refusedIn(Worlds::empty, "many(" + what + ") of a new object", NUMBER, x -> x.many(what));
        }
    }

    static void promise23TheThroatThatStepKOpened() {
        DOC.of("Promise 23", "The THROAT that STEP k (from 1 on) opened");
        for (int k = 1; k <= Worlds.STEPS; k++) {
            int asked = k;
            DOC.refusedIn(Worlds::running, "opened(" + k + ")", k - 1, x -> x.opened(asked));
        }
        SeepingRock x = Worlds.chain(120);
        x.begin();
        x.run(200);
        DOC.is("opened(1)", x.opened(1), 0);
        DOC.is("opened(119)", x.opened(119), 118);
        DOC.is("opened(120)", x.opened(120), -1);
    }

    static void promise23MinusOneIfThereIsNoneSuch() {
        DOC.of("Promise 23", "-1 if there is none such.");
        for (int k : Sentences.outside(1, Worlds.STEPS)) {
            DOC.refusedIn(Worlds::running, "opened(" + k + ")", -1, x -> x.opened(k));
        }
        for (int k = -1; k < 3; k++) {
            int asked = k;
            DOC.refusedIn(Worlds::still, "opened(" + k + ") without a RUN", -1, x -> x.opened(asked));
            DOC.refusedIn(Worlds::empty, "opened(" + k + ") of a new object", -1, x -> x.opened(asked));
        }
        SeepingRock x = Worlds.running();
        x.undo(1);
        DOC.is("opened(2), taken back", x.opened(2), -1);
        x.begin();
        DOC.is("opened(1), behind begin()", x.opened(1), -1);
    }

    static void promise24OfAPoreInTheRun() {
        DOC.of("Promise 24", "what = 0 the STEP that FILLED it (0: an INLET), 1 the THROAT by which (-1 for an INLET), 2 the STEP that CUT it, 3 its LAKE; -1 if there is none such");
        int[][] due = {{0, -1, -1, -1}, {1, 0, -1, -1}, {2, 1, -1, -1}, {-1, -1, 0, 0}, {3, 2, -1, -1},
            {-1, -1, 3, 1}, {-1, -1, 0, 0}};
        for (int p = 0; p < Worlds.PORES; p++) {
            for (int what = 0; what < 4; what++) {
                int pore = p;
                int asked = what;
                DOC.refusedIn(Worlds::ended, "now(" + p + ", " + what + ")", due[p][what], x -> x.now(pore, asked));
            }
        }
        for (int what = 0; what < 4; what++) {
            DOC.is("neither FILLED nor CUT, " + what, Worlds.running().now(5, what), -1);
        }
    }

    static void promise24StateThereIsNoRun() {
        DOC.of("Promise 24", "STATE: there is no RUN; NUMBER is answered as -2 here: there is no such PORE, another what.");
        for (int p : new int[] {0, 6, 7, -1, Integer.MIN_VALUE, Integer.MAX_VALUE}) {
            for (int what = -1; what < 5; what++) {
                int asked = what;
                DOC.refusedIn(Worlds::still, "now(" + p + ", " + what + ")", STATE, x -> x.now(p, asked));
            }
        }
        DOC.refusedIn(Worlds::empty, "now(0, 0) of a new object", STATE, x -> x.now(0, 0));
    }

    static void promise24NumberThereIsNoSuchPore() {
        DOC.of("Promise 24", "NUMBER is answered as -2 here: there is no such PORE");
        for (int p : Sentences.outside(0, Worlds.PORES - 1)) {
            for (int what = -1; what < 5; what++) {
                int asked = what;
                DOC.refusedInRuns("now(" + p + ", " + what + ")", -2, x -> x.now(p, asked));
            }
        }
    }

    static void promise24NumberAnotherWhat() {
        DOC.of("Promise 24", "another what.");
        for (int what : Sentences.outside(0, 3)) {
            DOC.refusedInRuns("now(0, " + what + ")", -2, x -> x.now(0, what));
            DOC.refusedInRuns("now(6, " + what + ")", -2, x -> x.now(6, what));
        }
    }

    static void promise25CandidateIByRankFrom0On() {
        DOC.of("Promise 25", "CANDIDATE i, by RANK, from 0 on");
        DOC.refusedIn(Worlds::running, "front(0)", 2, x -> x.front(0));
        DOC.refusedIn(Worlds::running, "front(1)", 4, x -> x.front(1));
        SeepingRock x = preferring(LIP);
        x.begin();
        x.step();
        int[] due = {1, 3, 2, 5, 4, -1};
        for (int i = 0; i < due.length; i++) {
            DOC.is("behind a LIP, too: front(" + i + ")", x.front(i), due[i]);
        }
    }

    static void promise25MinusOneIfThereIsNoneSuchOrNoRun() {
        DOC.of("Promise 25", "-1 if there is none such (or no RUN).");
        for (int i : Sentences.outside(0, 1)) {
            DOC.refusedIn(Worlds::running, "front(" + i + ")", -1, x -> x.front(i));
        }
        for (int i : new int[] {-1, 0, 1, Integer.MIN_VALUE, Integer.MAX_VALUE}) {
            DOC.refusedIn(Worlds::ended, "front(" + i + ") at the end", -1, x -> x.front(i));
            DOC.refusedIn(Worlds::still, "front(" + i + ") without a RUN", -1, x -> x.front(i));
            DOC.refusedIn(Worlds::empty, "front(" + i + ") of a new object", -1, x -> x.front(i));
        }
    }

    static void promise26OfALake() {
        DOC.of("Promise 26", "what = 0 its STEP, 1 how many PORES, 2 the least, 3 its LEVEL.");
        int[][] due = {{0, 2, 3, -1}, {3, 1, 5, 3}};
        for (int l = 0; l < 2; l++) {
            for (int what = 0; what < 4; what++) {
                int asked = l;
                int of = what;
                DOC.refusedIn(Worlds::ended, "lake(" + l + ", " + what + ")", due[l][what], x -> x.lake(asked, of));
            }
        }
        SeepingRock x = Worlds.rock(new int[120]);
        x.trapping(true);
        x.begin();
        DOC.is("the last of 120: its least", x.lake(119, 2), 119);
        DOC.is("the last of 120: how many", x.lake(119, 1), 1);
        DOC.is("no 121st", x.lake(120, 1), -2);
        x = Worlds.chain(120);
        x.inlet(0, false);
        x.trapping(true);
        x.begin();
        DOC.is("one of 120 PORES", x.lake(0, 1), 120);
        DOC.is("its least", x.lake(0, 2), 0);
    }

    static void promise26StateThereIsNoRun() {
        DOC.of("Promise 26", "STATE: there is no RUN; NUMBER is answered as -2 here: there is no such LAKE, another what.");
        for (int l : new int[] {0, 1, -1, Integer.MIN_VALUE, Integer.MAX_VALUE}) {
            for (int what = -1; what < 5; what++) {
                int of = what;
                DOC.refusedIn(Worlds::still, "lake(" + l + ", " + what + ")", STATE, x -> x.lake(l, of));
            }
        }
        DOC.refusedIn(Worlds::empty, "lake(0, 0) of a new object", STATE, x -> x.lake(0, 0));
    }

    static void promise26NumberThereIsNoSuchLake() {
        DOC.of("Promise 26", "NUMBER is answered as -2 here: there is no such LAKE");
        for (int l : Sentences.outside(0, Worlds.LAKES - 1)) {
            for (int what = -1; what < 5; what++) {
                int of = what;
                DOC.refusedIn(Worlds::running, "lake(" + l + ", " + what + ")", -2, x -> x.lake(l, of));
            }
        }
        SeepingRock x = Worlds.chain(2);
        x.begin();
        DOC.is("lake(0, 0) without TRAPPING", x.lake(0, 0), -2);
    }

    static void promise26NumberAnotherWhat() {
        DOC.of("Promise 26", "another what.");
        for (int what : Sentences.outside(0, 3)) {
            DOC.refusedInRuns("lake(0, " + what + ")", -2, x -> x.lake(0, what));
        }
    }

    static void promise27TheFirstStepThatFilledAnOutlet() {
        DOC.of("Promise 27", "The first STEP that FILLED an OUTLET (0: an INLET is one); -1 if none did.");
        DOC.refusedIn(Worlds::running, "none did", -1, x -> x.through());
        DOC.refusedIn(Worlds::ended, "the last did", 3, x -> x.through());
        SeepingRock x = Worlds.rock(OUTLET, OUTLET, PORE);
        Worlds.throats(x, 2, 1, 0, 2, 0, 1);
        x.inlet(2, true);
        x.begin();
        DOC.is("without STEPS", x.through(), -1);
        x.run(2);
        DOC.is("the first of two, though it has the greater number", x.through(), 1);
        x.inlet(0, true);
        x.begin();
        DOC.is("an INLET is one", x.through(), 0);
        x.run(1);
        DOC.is("an INLET is one, and one is FILLED", x.through(), 0);
        DOC.is("of no PORES", begun(new SeepingRock()).through(), -1);
    }

    private static SeepingRock begun(SeepingRock x) {
        x.begin();
        return x;
    }

    static void promise27StateThereIsNoRun() {
        DOC.of("Promise 27", "STATE: there is no RUN.");
        DOC.refusedIn(Worlds::still, "through()", STATE, x -> x.through());
        DOC.refusedIn(Worlds::empty, "through() of a new object", STATE, x -> x.through());
    }
}

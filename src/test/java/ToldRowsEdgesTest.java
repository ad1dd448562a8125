/** Boundary cases of THE TOLD ROWS (Terms 3, Promises 32 to 36); each test is named by the words that it holds. */
public final class ToldRowsEdgesTest {
    private static final Sentences DOC = new Sentences("ToldRowsEdgesTest");
    private static final int NUMBER = SeepingRock.NUMBER;

    public static void main(String[] args) {
        DOC.holdAll(ToldRowsEdgesTest.class, "Terms", "Promise 32", "Promise 33", "Promise 34", "Promise 35", "Promise 36");
    }

    static void terms3AtMost200() {
        DOC.of("Terms", "THE TOLD ROWS are THROATS, one behind the other, at most 200.");
        SeepingRock x = Worlds.chain(2);
        for (int k = 1; k <= 200; k++) {
            DOC.is("claim(0)", x.claim(0), k);
        }
        DOC.is("a 201st", x.claim(0), SeepingRock.FULL);
        DOC.is("many(8)", x.many(8), 200);
        DOC.is("alter(199, 0)", x.alter(199, 0), 1);
        DOC.is("alter(200, 0)", x.alter(200, 0), NUMBER);
        DOC.is("unclaim()", x.unclaim(), 200);
        DOC.is("claim(0) again", x.claim(0), 1);
    }

    static void promise32AThroatComesToTheEnd() {
        DOC.of("Promise 32", "A THROAT comes to the end of THE TOLD ROWS: how many.");
        SeepingRock x = Worlds.running();
        DOC.is("the first THROAT", x.claim(0), 4);
        DOC.is("the last THROAT, a SHUT one", x.claim(Worlds.THROATS - 1), 5);
        DOC.is("many(8)", x.many(8), 5);
        DOC.is("those ahead stay", x.check(), 3);
        DOC.is("the RUN stays", x.many(2), Worlds.STEPS);
    }

    static void promise32NumberThereIsNoneSuch() {
        DOC.of("Promise 32", "NUMBER: there is none such");
        for (int t : Sentences.outside(0, Worlds.THROATS - 1)) {
            DOC.refused("claim(" + t + ")", NUMBER, x -> x.claim(t));
        }
        DOC.refusedIn(Worlds::empty, "claim(0) without THROATS", NUMBER, x -> x.claim(0));
    }

    static void promise32FullThereAre200() {
        DOC.of("Promise 32", "FULL: there are 200.");
        DOC.refusedIn(Worlds::allTold, "claim(0)", SeepingRock.FULL, x -> x.claim(0));
        DOC.refusedIn(Worlds::allTold, "claim(1)", SeepingRock.FULL, x -> x.claim(1));
        DOC.of("Promise 32", "NUMBER: there is none such; FULL: there are 200.");
        for (int t : Sentences.outside(0, 1)) {
            DOC.refusedIn(Worlds::allTold, "ahead of FULL: claim(" + t + ")", NUMBER, x -> x.claim(t));
        }
    }

    static void promise33WhatTheRunOpenedInOrder() {
        DOC.of("Promise 33", "THE TOLD ROWS become what the RUN opened, in order: how many.");
        SeepingRock x = Worlds.running();
        x.alter(0, 5);
        DOC.is("of two STEPS, in place of three", x.copy(), 2);
        DOC.is("many(8)", x.many(8), 2);
        DOC.is("just those", x.check(), -1);
        DOC.is("alter(2, 0)", x.alter(2, 0), NUMBER);
        DOC.is("the RUN stays", x.many(2), Worlds.STEPS);
        x.undo(2);
        DOC.is("of STEP 0, in place of two", x.copy(), 0);
        DOC.is("nothing is told", x.unclaim(), 0);
        x = Worlds.chain(120);
        x.begin();
        x.run(200);
        DOC.is("of 119", x.copy(), 119);
        DOC.is("check()", x.check(), -1);
        DOC.is("claim(0)", x.claim(0), 120);
        DOC.is("check()", x.check(), 119);
        x = Worlds.allTold();
        DOC.is("in place of 200", x.copy(), 1);
        DOC.is("a second one", x.claim(0), 2);
    }

    static void promise33StateThereIsNoRun() {
        DOC.of("Promise 33", "STATE: there is no RUN.");
        DOC.refusedIn(Worlds::still, "copy()", SeepingRock.STATE, x -> x.copy());
        DOC.refusedIn(Worlds::empty, "copy() of a new object", SeepingRock.STATE, x -> x.copy());
    }

    static void promise34BecomesAnotherOneItMayBeTheSame() {
        DOC.of("Promise 34", "THROAT k (from 0 on) of THE TOLD ROWS becomes another one (it may be the same): 1.");
        for (int k = 0; k < Worlds.TOLD_ROWS; k++) {
            int asked = k;
            DOC.refused("the same: alter(" + k + ", " + k + ")", 1, x -> x.alter(asked, asked));
            SeepingRock x = Worlds.running();
            DOC.is("the last THROAT: alter(" + k + ", 7)", x.alter(k, Worlds.THROATS - 1), 1);
            DOC.is("just that one is another", x.check(), k);
            DOC.is("back again", x.alter(k, k), 1);
            DOC.is("none is another", x.check(), -1);
            DOC.is("as many as there were", x.many(8), Worlds.TOLD_ROWS);
            DOC.is("the RUN stays", x.many(2), Worlds.STEPS);
        }
    }

    static void promise34NumberThereIsNoSuchOne() {
        DOC.of("Promise 34", "NUMBER: there is no such one");
        for (int k : Sentences.outside(0, Worlds.TOLD_ROWS - 1)) {
            DOC.refused("alter(" + k + ", 0)", NUMBER, x -> x.alter(k, 0));
        }
        for (int k : Sentences.outside(0, 199)) {
            DOC.refusedIn(Worlds::allTold, "of 200: alter(" + k + ", 0)", NUMBER, x -> x.alter(k, 0));
        }
        for (int k : Sentences.outside(0, -1)) {
            DOC.refusedIn(Worlds::allPores, "of nothing: alter(" + k + ", 0)", NUMBER, x -> x.alter(k, 0));
        }
        SeepingRock x = Worlds.running();
        x.unclaim();
        DOC.is("one that was", x.alter(0, 0), NUMBER);
    }

    static void promise34NumberNoSuchThroat() {
        DOC.of("Promise 34", "or no such THROAT.");
        for (int t : Sentences.outside(0, Worlds.THROATS - 1)) {
            for (int k = -1; k <= Worlds.TOLD_ROWS; k++) {
                int asked = k;
                DOC.refused("alter(" + k + ", " + t + ")", NUMBER, x -> x.alter(asked, t));
            }
        }
    }

    static void promise35HowManyThroatsTheyHad() {
        DOC.of("Promise 35", "THE TOLD ROWS are nothing: how many THROATS they had.");
        DOC.refusedIn(Worlds::empty, "of nothing", 0, x -> x.unclaim());
        DOC.refusedIn(Worlds::allPores, "of nothing, in a RUN", 0, x -> x.unclaim());
        SeepingRock x = Worlds.running();
        DOC.is("of three", x.unclaim(), 3);
        DOC.is("many(8)", x.many(8), 0);
        DOC.is("check()", x.check(), -1);
        DOC.is("of nothing again", x.unclaim(), 0);
        DOC.is("the RUN stays", x.many(2), Worlds.STEPS);
        DOC.is("of 200", Worlds.allTold().unclaim(), 200);
    }

    static void promise36MinusOneIfARunBegunAnewWouldOpenJustThem() {
        DOC.of("Promise 36", "-1 if a RUN begun anew would open, STEP by STEP, just THE TOLD ROWS first");
        DOC.refusedIn(Worlds::empty, "nothing told, of no PORES", -1, x -> x.check());
        DOC.refusedIn(Worlds::allPores, "nothing told", -1, x -> x.check());
        DOC.refused("all that it opens", -1, x -> x.check());
        SeepingRock x = Worlds.still();
        x.unclaim();
        x.claim(0);
        DOC.is("the first of three", x.check(), -1);
        x.claim(1);
        DOC.is("the first two of three", x.check(), -1);
    }

    static void promise36ElseTheFirstThatItWouldNotOpen() {
        DOC.of("Promise 36", "else the first (from 0 on) that it would not open at its STEP");
        SeepingRock x = Worlds.running();
        x.alter(2, 4);
        DOC.is("the third", x.check(), 2);
        x.alter(1, 2);
        DOC.is("the second", x.check(), 1);
        x.alter(0, 3);
        DOC.is("the first", x.check(), 0);
        x.alter(0, 7);
        DOC.is("a SHUT one", x.check(), 0);
        DOC.is("without a change: many(2)", x.many(2), Worlds.STEPS);
        DOC.is("one of 200", Worlds.allTold().check(), 2);
    }

    static void promise36AlsoAsItHasEndedByThen() {
        DOC.of("Promise 36", "(also as it has ended by then)");
        SeepingRock x = Worlds.ended();
        for (int t = 0; t < Worlds.THROATS; t++) {
            DOC.is("claim(" + t + ")", x.claim(t), 4);
            DOC.is("behind the last STEP", x.check(), 3);
            x.unclaim();
            x.copy();
        }
        x.inlet(0, false);
        DOC.is("no INLETS", x.check(), 0);
        x = Worlds.chain(120);
        for (int k = 0; k < 200; k++) {
            x.claim(Math.min(k, 118));
        }
        DOC.is("200 told, 119 opened", x.check(), 119);
    }

    static void promise36TheRunStaysAsItIs() {
        DOC.of("Promise 36", "(The RUN stays as it is.)");
        DOC.refused("check()", -1, x -> x.check());
        SeepingRock x = Worlds.running();
        SeepingRock y = Worlds.running();
        for (SeepingRock each : new SeepingRock[] {x, y}) {
            each.undo(1);
            each.claim(7);
        }
        DOC.is("check() behind undo()", x.check(), 3);
        DOC.unchanged("check() behind undo()", x, y);
        DOC.is("check() makes no RUN", unrun().step(), SeepingRock.STATE);
    }

    private static SeepingRock unrun() {
        SeepingRock x = Worlds.still();
        x.check();
        return x;
    }
}

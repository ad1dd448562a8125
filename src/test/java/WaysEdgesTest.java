/** Boundary cases of Terms 3 (ways, joins, the tree) and Promises 28 to 31; each test is named by the words that it holds. */
public final class WaysEdgesTest {
    private static final Sentences DOC = new Sentences("WaysEdgesTest");
    private static final int APART = SeepingRock.APART;

    public static void main(String[] args) {
        DOC.holdAll(WaysEdgesTest.class, "Terms", "Promise 28", "Promise 29", "Promise 30", "Promise 31");
    }

    static void terms3BesideAnyRun() {
        DOC.of("Terms", "Beside any RUN");
        SeepingRock x = Worlds.running();
        SeepingRock y = Worlds.still();
        for (int p = 0; p < Worlds.PORES; p++) {
            DOC.is("worst(" + p + ") in a RUN as without", x.worst(p), y.worst(p));
            DOC.is("way(" + p + ", 0) in a RUN as without", x.way(p, 0), y.way(p, 0));
            DOC.is("join(0, " + p + ") in a RUN as without", x.join(0, p), y.join(0, p));
            DOC.is("tree(" + p + ") in a RUN as without", x.tree(p), y.tree(p));
        }
        DOC.unchanged("the RUN stays: each of them", x, Worlds.running());
    }

    static void terms3WithoutTrappingWithoutKinds() {
        DOC.of("Terms", "(without TRAPPING, without KINDS: DEAD ones lead on)");
        for (int kind = 0; kind < 5; kind++) {
            SeepingRock x = Worlds.rock(kind, kind, kind, kind);
            Worlds.throats(x, 0, 1, 2, 0, 2, 1, 1, 2, 5, 1, 3, 4);
            x.inlet(0, true);
            x.trapping(true);
            DOC.is("worst(3) over kind " + kind, x.worst(3), 2);
            DOC.is("way(3, 0)", x.way(3, 0), 0);
            DOC.is("way(3, 1)", x.way(3, 1), 3);
            DOC.is("by RANK, from a PORE of kind " + kind, x.way(1, 0), 0);
            DOC.is("join(2, 3)", x.join(2, 3), 2);
            DOC.is("tree(0)", x.tree(0), 1);
            DOC.is("tree(2)", x.tree(2), 3);
        }
    }

    static void terms3ThePlainRunBeginsWithTheInlets() {
        DOC.of("Terms", "THE PLAIN RUN begins with the INLETS and opens, each time");
        SeepingRock x = Worlds.chain(5);
        DOC.is("from one INLET: worst(4)", x.worst(4), 3);
        x.inlet(4, true);
        DOC.is("two INLETS: worst(4)", x.worst(4), -1);
        DOC.is("the first THROAT goes ahead: way(3, 0)", x.way(3, 0), 0);
        x.hinder(0, 9);
        DOC.is("from the other INLET: way(3, 0)", x.way(3, 0), 3);
        DOC.is("from the other INLET: way(1, 0)", x.way(1, 0), 3);
        DOC.is("from the other INLET: way(1, 2)", x.way(1, 2), 1);
        x.inlet(0, false);
        DOC.is("of one that is none any more: worst(0)", x.worst(0), 3);
        x.begin();
        x.run(2);
        DOC.is("not with what a RUN FILLED: worst(3)", x.worst(3), 2);
    }

    static void terms3EachPoresThatByWhichItWasFilled() {
        DOC.of("Terms", "THE WAY of a PORE that it FILLS: the THROATS from an INLET to it, each PORE's that by which it was FILLED.");
        SeepingRock x = Worlds.rock(0, 0, 0, 0);
        Worlds.throats(x, 0, 1, 1, 1, 2, 2, 0, 2, 3, 2, 3, 4, 1, 3, 5);
        x.inlet(0, true);
        int[] due = {0, 1, 3, -1};
        for (int i = 0; i < due.length; i++) {
            DOC.is("the longer one: way(3, " + i + ")", x.way(3, i), due[i]);
        }
        x.hinder(2, 0);
        DOC.is("way(2, 0)", x.way(2, 0), 2);
        DOC.is("way(2, 1)", x.way(2, 1), -1);
        DOC.is("way(3, 1)", x.way(3, 1), 3);
    }

    static void terms3OfAllOpenThroatsTheOneOfTheLeastRank() {
        DOC.of("Terms", "of all OPEN THROATS from a FILLED PORE to one that isn't the one of the least RANK, till there is none");
        SeepingRock x = Worlds.rock(0, 0, 0, 0, 0);
        Worlds.throats(x, 0, 1, 5, 0, 2, 3, 2, 1, 4, 1, 3, 0, 2, 3, 9, 3, 4, 0);
        x.inlet(0, true);
        DOC.is("over another: way(1, 0)", x.way(1, 0), 1);
        DOC.is("over another: way(1, 1)", x.way(1, 1), 2);
        DOC.is("over another: way(1, 2)", x.way(1, 2), -1);
        DOC.is("equal ones by number: way(4, 3)", x.way(4, 3), 5);
        x.shut(5, true);
        DOC.is("not by a SHUT one", x.worst(4), APART);
        DOC.is("all others are FILLED", x.worst(3), 2);
        x.shut(2, true);
        DOC.is("round a SHUT one", x.way(1, 0), 0);
    }

    static void terms3WorstMinusOneForAnInlet() {
        DOC.of("Terms", "WORST is the greatest RANK of these (-1 for an INLET).");
        SeepingRock x = Worlds.chain(3);
        x.hinder(0, 7);
        DOC.is("an INLET", x.worst(0), -1);
        DOC.is("RANK 1", x.worst(1), 1);
        DOC.is("the greatest isn't the last", x.worst(2), 1);
        x.inlet(2, true);
        DOC.is("another INLET", x.worst(2), -1);
        DOC.is("from the other INLET", x.worst(1), 0);
        x.inlet(1, true);
        DOC.is("all are INLETS", x.worst(1), -1);
    }

    static void terms3JoinMinusOneForOneAndItself() {
        DOC.of("Terms", "(-1 for one and itself)");
        for (int p = 0; p < Worlds.PORES; p++) {
            int pore = p;
            DOC.refused("join(" + p + ", " + p + ")", -1, x -> x.join(pore, pore));
        }
        DOC.is("without THROATS", Worlds.rock(0).join(0, 0), -1);
    }

    static void terms3TheLeastRSuchThatOpenThroatsOfRanksUpToR() {
        DOC.of("Terms", "the least r such that OPEN THROATS of RANKS up to r make a way between them");
        SeepingRock x = Worlds.rock(0, 0, 0, 0);
        Worlds.throats(x, 0, 1, 0, 2, 3, 0, 1, 2, 6, 0, 3, 5);
        DOC.is("RANK 0", x.join(0, 1), 0);
        DOC.is("RANK 1", x.join(3, 2), 1);
        DOC.is("round, by the lesser", x.join(1, 2), 2);
        x.shut(3, true);
        DOC.is("the ranks of OPEN ones alone", x.join(1, 2), 2);
        x.shut(0, true);
        DOC.is("the ranks are lesser then", x.join(1, 2), 1);
        DOC.is("no way", x.join(0, 1), APART);
    }

    static void terms3TheTreeOpenThroatsByRank() {
        DOC.of("Terms", "THE TREE: OPEN THROATS, by RANK, each that joins two PORES that those taken so far don't hang together.");
        SeepingRock x = Worlds.rock(0, 0, 0, 0, 0);
        Worlds.throats(x, 0, 1, 3, 1, 0, 3, 1, 2, 1, 0, 2, 2, 3, 4, 9);
        int[] due = {2, 3, 4, -1};
        for (int i = 0; i < due.length; i++) {
            DOC.is("tree(" + i + ")", x.tree(i), due[i]);
        }
        x.shut(3, true);
        DOC.is("of two alike the lesser number", x.tree(1), 0);
        for (int t = 0; t < 5; t++) {
            x.shut(t, true);
        }
        DOC.is("all are SHUT", x.tree(0), -1);
    }

    static void promise28WorstOfAPore() {
        DOC.of("Promise 28", "WORST of a PORE.");
        int[] due = {-1, 2, 2, 6, 3, 4, 6};
        for (int p = 0; p < Worlds.PORES; p++) {
            int pore = p;
            DOC.refused("worst(" + p + ")", due[p], x -> x.worst(pore));
        }
        SeepingRock x = Worlds.rock(0, 0, 0);
        for (int t = 0; t < 300; t++) {
            x.throat(0, t == 299 ? 2 : 1);
        }
        x.inlet(0, true);
        DOC.is("RANK 299", x.worst(2), 299);
        DOC.is("way by throat 299", x.way(2, 0), 299);
        DOC.is("JOIN 299", x.join(1, 2), 299);
        DOC.is("the last of THE TREE", x.tree(1), 299);
    }

    static void promise28NumberThereIsNoneSuch() {
        DOC.of("Promise 28", "NUMBER is answered as -2 here: there is none such");
        for (int p : Sentences.outside(0, Worlds.PORES - 1)) {
            DOC.refused("worst(" + p + ")", -2, x -> x.worst(p));
        }
        DOC.refusedIn(Worlds::empty, "worst(0) without PORES", -2, x -> x.worst(0));
    }

    static void promise28ApartThePlainRunDoesntFillIt() {
        DOC.of("Promise 28", "APART: THE PLAIN RUN doesn't FILL it.");
        SeepingRock x = Worlds.running();
        x.shut(3, true);
        DOC.is("behind SHUT ones", x.worst(3), APART);
        DOC.is("behind SHUT ones", x.worst(6), APART);
        DOC.is("an INLET", x.worst(0), -1);
        x.inlet(0, false);
        for (int p = 0; p < Worlds.PORES; p++) {
            DOC.is("without INLETS: worst(" + p + ")", x.worst(p), APART);
        }
        DOC.refusedIn(Worlds::allPores, "without THROATS at it", APART, y -> y.worst(118));
    }

    static void promise29ThroatIOfTheWay() {
        DOC.of("Promise 29", "THROAT i (from 0 on, from the INLET on) of THE WAY of a PORE");
        int[][] due = {{}, {0}, {0, 1}, {3}, {0, 1, 2}, {0, 4}, {3, 6}};
        for (int p = 0; p < Worlds.PORES; p++) {
            for (int i = 0; i <= due[p].length; i++) {
                int pore = p;
                int asked = i;
                int want = i < due[p].length ? due[p][i] : -1;
                DOC.refused("way(" + p + ", " + i + ")", want, x -> x.way(pore, asked));
            }
        }
        SeepingRock x = Worlds.chain(120);
        DOC.is("the last of 119", x.way(119, 118), 118);
        DOC.is("the first of 119", x.way(119, 0), 0);
        DOC.is("no 120th", x.way(119, 119), -1);
    }

    static void promise29MinusOneIfThereIsNoneSuch() {
        DOC.of("Promise 29", "-1 if there is none such.");
        for (int p : Sentences.outside(0, Worlds.PORES - 1)) {
            DOC.refused("no PORE: way(" + p + ", 0)", -1, x -> x.way(p, 0));
        }
        for (int i : Sentences.outside(0, 2)) {
            DOC.refused("way(4, " + i + ")", -1, x -> x.way(4, i));
            DOC.refused("no PORE: way(-1, " + i + ")", -1, x -> x.way(-1, i));
        }
        for (int i : Sentences.outside(0, -1)) {
            DOC.refused("of an INLET: way(0, " + i + ")", -1, x -> x.way(0, i));
            DOC.refusedIn(Worlds::allPores, "of one that isn't FILLED: way(118, " + i + ")", -1, x -> x.way(118, i));
        }
        DOC.refusedIn(Worlds::empty, "way(0, 0) without PORES", -1, x -> x.way(0, 0));
    }

    static void promise30JoinOfTwoPores() {
        DOC.of("Promise 30", "JOIN of two PORES.");
        int[] due = {-1, 2, 2, 6, 3, 4, 6};
        for (int p = 0; p < Worlds.PORES; p++) {
            int pore = p;
            DOC.refused("join(0, " + p + ")", due[p], x -> x.join(0, pore));
            DOC.refused("join(" + p + ", 0)", due[p], x -> x.join(pore, 0));
        }
        DOC.is("the ends of 120", Worlds.chain(120).join(119, 0), 118);
    }

    static void promise30AskedAgain() {
        DOC.of("Promise 30", "JOIN of two PORES.");
        SeepingRock x = Worlds.rock(0, 0, 0, 0);
        Worlds.throats(x, 2, 3, 0, 1, 0, 1, 3, 1, 2);
        for (int k = 0; k < 3; k++) {
            DOC.is("join(0, 1)", x.join(0, 1), 1);
            DOC.is("join(3, 2)", x.join(3, 2), 0);
            DOC.is("join(0, 2)", x.join(0, 2), 2);
            DOC.is("tree(1)", x.tree(1), 1);
        }
    }

    static void promise30NumberOneIsNone() {
        DOC.of("Promise 30", "NUMBER is answered as -2 here: one is none");
        for (int p : Sentences.outside(0, Worlds.PORES - 1)) {
            DOC.refused("join(" + p + ", 0)", -2, x -> x.join(p, 0));
            DOC.refused("join(0, " + p + ")", -2, x -> x.join(0, p));
            DOC.refused("one and itself: join of two of " + p, -2, x -> x.join(p, p));
        }
        DOC.refusedIn(Worlds::empty, "join(0, 0) without PORES", -2, x -> x.join(0, 0));
    }

    static void promise30ApartThereIsNoneSuch() {
        DOC.of("Promise 30", "APART: there is none such.");
        DOC.refusedIn(Worlds::allPores, "join(0, 118)", APART, x -> x.join(0, 118));
        DOC.refusedIn(Worlds::allPores, "join(117, 118)", APART, x -> x.join(117, 118));
        SeepingRock x = Worlds.running();
        x.shut(3, true);
        DOC.is("behind a SHUT one", x.join(0, 6), APART);
        DOC.is("over another way", x.join(3, 6), 0);
        DOC.is("without THROATS", Worlds.rock(0, 0).join(0, 1), APART);
    }

    static void promise31ThroatIOfTheTree() {
        DOC.of("Promise 31", "THROAT i (from 0 on) of THE TREE, as they are taken");
        int[] due = {6, 1, 0, 2, 4, 3};
        for (int i = 0; i < due.length; i++) {
            int asked = i;
            DOC.refused("tree(" + i + ")", due[i], x -> x.tree(asked));
        }
        SeepingRock x = Worlds.chain(120);
        DOC.is("the last of 119", x.tree(118), 118);
        DOC.is("no 120th", x.tree(119), -1);
    }

    static void promise31MinusOneIfThereIsNoneSuch() {
        DOC.of("Promise 31", "-1 if there is none such.");
        for (int i : Sentences.outside(0, 5)) {
            DOC.refused("tree(" + i + ")", -1, x -> x.tree(i));
        }
        for (int i : new int[] {0, -1, Integer.MIN_VALUE, Integer.MAX_VALUE}) {
            DOC.refusedIn(Worlds::empty, "tree(" + i + ") without THROATS", -1, x -> x.tree(i));
        }
    }
}

/** Boundary cases of Terms 1 and Promises 1 to 10; each test is named by the words that it holds. */
public final class RockEdgesTest {
    private static final Sentences DOC = new Sentences("RockEdgesTest");
    private static final int NUMBER = SeepingRock.NUMBER;
    private static final int MOST_HINDRANCE = 1000000000;

    public static void main(String[] args) {
        DOC.holdAll(RockEdgesTest.class, "Terms", "Promise 1", "Promise 2", "Promise 3", "Promise 4", "Promise 5",
            "Promise 6", "Promise 7", "Promise 8", "Promise 9", "Promise 10");
    }

    static void terms1PoresAre0To119() {
        DOC.of("Terms", "PORES are 0 to 119");
        SeepingRock x = Worlds.rock(new int[119]);
        DOC.is("the last pore(4)", x.pore(4), 119);
        DOC.is("throat(119, 0)", x.throat(119, 0), 0);
        DOC.is("throat(120, 0)", x.throat(120, 0), NUMBER);
        DOC.is("throat(0, 120)", x.throat(0, 120), NUMBER);
        DOC.is("inlet(119, true)", x.inlet(119, true), 1);
        DOC.is("inlet(120, true)", x.inlet(120, true), NUMBER);
        DOC.is("of(119, 0)", x.of(119, 0), 4);
        DOC.is("of(120, 0)", x.of(120, 0), NUMBER);
        DOC.is("begin()", x.begin(), 1);
        DOC.is("step()", x.step(), 0);
        DOC.is("now(0, 0)", x.now(0, 0), 1);
        DOC.is("now(119, 0)", x.now(119, 0), 0);
        DOC.is("now(120, 0)", x.now(120, 0), -2);
        DOC.is("worst(119)", x.worst(119), -1);
        DOC.is("worst(120)", x.worst(120), -2);
        DOC.is("join(119, 0)", x.join(119, 0), 0);
        DOC.is("join(120, 0)", x.join(120, 0), -2);
    }

    static void terms1ThroatsAre0To299() {
        DOC.of("Terms", "THROATS 0 to 299");
        SeepingRock x = Worlds.rock(0, 0);
        for (int t = 0; t < 299; t++) {
            x.throat(0, 1);
        }
        DOC.is("the last throat(1, 0)", x.throat(1, 0), 299);
        DOC.is("about(299, 0)", x.about(299, 0), 1);
        DOC.is("about(299, 4)", x.about(299, 4), 299);
        DOC.is("ranked(299)", x.ranked(299), 299);
        DOC.is("ranked(300)", x.ranked(300), -1);
        DOC.is("hinder(299, 0)", x.hinder(299, 0), 1);
        DOC.is("hinder(300, 0)", x.hinder(300, 0), NUMBER);
        DOC.is("hinder(0, 1)", x.hinder(0, 1), 1);
        DOC.is("about(299, 4)", x.about(299, 4), 298);
        DOC.is("about(0, 4)", x.about(0, 4), 299);
        DOC.is("shut(299, true)", x.shut(299, true), 1);
        DOC.is("shut(300, true)", x.shut(300, true), NUMBER);
        DOC.is("ranked(299)", x.ranked(299), -1);
        DOC.is("about(0, 4)", x.about(0, 4), 298);
        DOC.is("claim(299)", x.claim(299), 1);
        DOC.is("claim(300)", x.claim(300), NUMBER);
        DOC.is("of(0, 2)", x.of(0, 2), 300);
    }

    static void terms1NumberedAsTheyCome() {
        DOC.of("Terms", "PORES are 0 to 119, THROATS 0 to 299, as they come.");
        SeepingRock x = new SeepingRock();
        DOC.is("pore(3)", x.pore(3), 0);
        DOC.is("pore(1)", x.pore(1), 1);
        DOC.is("a refused one takes no number: pore(9)", x.pore(9), NUMBER);
        DOC.is("throat(1, 0)", x.throat(1, 0), 0);
        DOC.is("a refused one takes no number: throat(1, 1)", x.throat(1, 1), NUMBER);
        DOC.is("pore(2)", x.pore(2), 2);
        DOC.is("throat(0, 2)", x.throat(0, 2), 1);
        x.hinder(0, 7);
        x.shut(1, true);
        DOC.is("throat(1, 2)", x.throat(1, 2), 2);
    }

    static void terms1APoreHasAKind() {
        DOC.of("Terms", "A PORE has a KIND: 0 PORE, 1 WIDE, 2 LIP, 3 DEAD, 4 OUTLET");
        int[] third = {3, 1, 2, 3, 3};
        for (int kind = 0; kind < 5; kind++) {
            SeepingRock x = Worlds.rock(0, kind, 0, 0, 0);
            Worlds.throats(x, 0, 1, 0, 1, 2, 5, 1, 3, 6, 0, 4, 1);
            x.inlet(0, true);
            x.begin();
            DOC.is("into kind " + kind, x.step(), 0);
            DOC.is("behind kind " + kind, x.step(), third[kind]);
            DOC.is("kind " + kind + " as an OUTLET", x.through(), kind == 4 ? 1 : -1);
            DOC.is("kind " + kind + " leads on", x.run(200), kind == 3 ? 0 : 2);
        }
    }

    static void terms1AnInletOrNotNotAtFirst() {
        DOC.of("Terms", "is an INLET or not (not at first)");
        SeepingRock x = Worlds.rock(0, 1, 2, 3, 4);
        for (int p = 0; p < 5; p++) {
            DOC.is("of(" + p + ", 1)", x.of(p, 1), 0);
        }
        DOC.is("begin()", x.begin(), 0);
    }

    static void terms1JoinsTwoUnlikePores() {
        DOC.of("Terms", "A THROAT joins two unlike PORES");
        SeepingRock x = Worlds.rock(0, 0);
        DOC.is("throat(0, 0)", x.throat(0, 0), NUMBER);
        DOC.is("throat(0, 1)", x.throat(0, 1), 0);
        DOC.is("one more between the two", x.throat(0, 1), 1);
        DOC.is("one more, the other way round", x.throat(1, 0), 2);
        DOC.is("of(1, 2)", x.of(1, 2), 3);
    }

    static void terms1Hindrance0To1000000000() {
        DOC.of("Terms", "has a HINDRANCE (0 to 1,000,000,000; 0 at first)");
        SeepingRock x = Worlds.chain(3);
        DOC.is("about(1, 2) at first", x.about(1, 2), 0);
        DOC.is("hinder(1, 1000000000)", x.hinder(1, MOST_HINDRANCE), 1);
        DOC.is("about(1, 2)", x.about(1, 2), MOST_HINDRANCE);
        DOC.is("hinder(1, 1000000001)", x.hinder(1, MOST_HINDRANCE + 1), NUMBER);
        DOC.is("hinder(1, -1)", x.hinder(1, -1), NUMBER);
        DOC.is("about(1, 2)", x.about(1, 2), MOST_HINDRANCE);
        DOC.is("hinder(1, 0)", x.hinder(1, 0), 1);
        DOC.is("about(1, 2)", x.about(1, 2), 0);
    }

    static void terms1OpenAtFirst() {
        DOC.of("Terms", "is OPEN (at first) or SHUT");
        SeepingRock x = Worlds.chain(2);
        DOC.is("about(0, 3)", x.about(0, 3), 1);
        DOC.is("about(0, 4)", x.about(0, 4), 0);
        x.shut(0, true);
        DOC.is("about(0, 3)", x.about(0, 3), 0);
    }

    static void terms1RankOfALesserHindranceOrTheSameAndALesserNumber() {
        DOC.of("Terms", "how many OPEN ones have a lesser HINDRANCE, or the same one and a lesser number");
        SeepingRock x = Worlds.rock(0, 0);
        Worlds.throats(x, 0, 1, MOST_HINDRANCE, 0, 1, 0, 0, 1, MOST_HINDRANCE - 1, 0, 1, MOST_HINDRANCE, 0, 1, 0, 0, 1, 1);
        ranks(x, 4, 0, 3, 5, 1, 2);
        x.shut(1, true);
        ranks(x, 3, -2, 2, 4, 0, 1);
        x.shut(3, true);
        ranks(x, 3, -2, 2, -2, 0, 1);
        x.shut(1, false);
        x.hinder(1, MOST_HINDRANCE);
        ranks(x, 3, 4, 2, -2, 0, 1);
        for (int t = 0; t < 6; t++) {
            x.shut(t, true);
        }
        ranks(x, -2, -2, -2, -2, -2, -2);
        x.shut(5, false);
        ranks(x, -2, -2, -2, -2, -2, 0);
    }

    private static void ranks(SeepingRock x, int... due) {
        for (int t = 0; t < due.length; t++) {
            DOC.is("about(" + t + ", 4)", x.about(t, 4), due[t]);
            if (due[t] >= 0) {
                DOC.is("ranked(" + due[t] + ")", x.ranked(due[t]), t);
            }
        }
    }

    static void promise1NoPores() {
        DOC.of("Promise 1", "No PORES");
        DOC.is("many(0)", new SeepingRock().many(0), 0);
        DOC.refusedIn(Worlds::empty, "of(0, 0)", NUMBER, x -> x.of(0, 0));
        DOC.refusedIn(Worlds::empty, "inlet(0, true)", NUMBER, x -> x.inlet(0, true));
        DOC.refusedIn(Worlds::empty, "throat(0, 1)", NUMBER, x -> x.throat(0, 1));
        DOC.refusedIn(Worlds::empty, "worst(0)", -2, x -> x.worst(0));
        DOC.refusedIn(Worlds::empty, "way(0, 0)", -1, x -> x.way(0, 0));
        DOC.refusedIn(Worlds::empty, "join(0, 0)", -2, x -> x.join(0, 0));
        SeepingRock x = new SeepingRock();
        DOC.is("begin()", x.begin(), 0);
        DOC.is("now(0, 0)", x.now(0, 0), -2);
        DOC.is("step()", x.step(), SeepingRock.END);
        DOC.is("through()", x.through(), -1);
        x.trapping(true);
        DOC.is("begin() with TRAPPING", x.begin(), 0);
        DOC.is("no LAKES", x.many(6), 0);
    }

    static void promise1NoThroats() {
        DOC.of("Promise 1", "no THROATS");
        DOC.is("many(1)", new SeepingRock().many(1), 0);
        DOC.refusedIn(Worlds::empty, "about(0, 0)", NUMBER, x -> x.about(0, 0));
        DOC.refusedIn(Worlds::empty, "hinder(0, 0)", NUMBER, x -> x.hinder(0, 0));
        DOC.refusedIn(Worlds::empty, "shut(0, true)", NUMBER, x -> x.shut(0, true));
        DOC.refusedIn(Worlds::empty, "ranked(0)", -1, x -> x.ranked(0));
        DOC.refusedIn(Worlds::empty, "tree(0)", -1, x -> x.tree(0));
        DOC.refusedIn(Worlds::empty, "claim(0)", NUMBER, x -> x.claim(0));
        DOC.refusedIn(Worlds::empty, "alter(0, 0)", NUMBER, x -> x.alter(0, 0));
    }

    static void promise1CoresAreMissing() {
        DOC.of("Promise 1", "CORES are MISSING");
        for (int c = 0; c < 6; c++) {
            int place = c;
            DOC.is("told(" + c + ", 0)", new SeepingRock().told(c, 0), Long.MAX_VALUE);
            DOC.refusedIn(Worlds::empty, "cell", SeepingRock.MISSING, x -> x.cell(place, 0, 0, 0));
            DOC.refusedIn(Worlds::empty, "wild", SeepingRock.MISSING, x -> x.wild(place, 0, 0));
            DOC.refusedIn(Worlds::empty, "splice", SeepingRock.MISSING, x -> x.splice(place, 0, place, 0, 0));
            DOC.refusedIn(Worlds::empty, "lose", SeepingRock.MISSING, x -> x.lose(place));
            DOC.refusedIn(Worlds::empty, "pour", SeepingRock.MISSING, x -> x.pour(place, 0, 0, 0));
        }
    }

    static void promise1NoRun() {
        DOC.of("Promise 1", "no RUN");
        int state = SeepingRock.STATE;
        DOC.refusedIn(Worlds::empty, "step()", state, x -> x.step());
        DOC.refusedIn(Worlds::empty, "run(0)", state, x -> x.run(0));
        DOC.refusedIn(Worlds::empty, "undo(0)", state, x -> x.undo(0));
        for (int what = 2; what < 8; what++) {
            DOC.is("many(" + what + ")", new SeepingRock().many(what), state);
        }
        DOC.refusedIn(Worlds::empty, "opened(1)", -1, x -> x.opened(1));
        DOC.refusedIn(Worlds::empty, "now(0, 0)", state, x -> x.now(0, 0));
        DOC.refusedIn(Worlds::empty, "front(0)", -1, x -> x.front(0));
        DOC.refusedIn(Worlds::empty, "lake(0, 0)", state, x -> x.lake(0, 0));
        DOC.refusedIn(Worlds::empty, "through()", state, x -> x.through());
        DOC.refusedIn(Worlds::empty, "copy()", state, x -> x.copy());
    }

    static void promise1NothingTold() {
        DOC.of("Promise 1", "nothing told");
        DOC.is("many(8)", new SeepingRock().many(8), 0);
        DOC.is("unclaim()", new SeepingRock().unclaim(), 0);
        DOC.is("check()", new SeepingRock().check(), -1);
        SeepingRock x = Worlds.chain(2);
        DOC.is("alter(0, 0)", x.alter(0, 0), NUMBER);
    }

    static void promise1ANewObjectHoldsNothingOfAnother() {
        DOC.of("Promise 1", "No PORES, no THROATS; CORES are MISSING; no RUN; nothing told.");
        SeepingRock y = new SeepingRock();
        SeepingRock x = Worlds.running();
        DOC.unchanged("another object", y, new SeepingRock());
        DOC.unchanged("a new object", x, Worlds.running());
        DOC.is("pore(4)", new SeepingRock().pore(4), 0);
        DOC.is("told(0, 0)", new SeepingRock().told(0, 0), Long.MAX_VALUE);
        DOC.is("step()", new SeepingRock().step(), SeepingRock.STATE);
        DOC.is("trapping(false)", new SeepingRock().trapping(false), 0);
        DOC.is("unclaim()", new SeepingRock().unclaim(), 0);
    }

    static void promise2APoreComesItsNumber() {
        DOC.of("Promise 2", "A PORE comes: its number.");
        SeepingRock x = new SeepingRock();
        for (int kind = 0; kind < 5; kind++) {
            DOC.is("pore(" + kind + ")", x.pore(kind), kind);
            DOC.is("of(" + kind + ", 0)", x.of(kind, 0), kind);
            DOC.is("of(" + kind + ", 2)", x.of(kind, 2), 0);
        }
        DOC.is("many(0)", x.many(0), 5);
    }

    static void promise2APoreComesBehindThroats() {
        DOC.of("Promise 2", "A PORE comes: its number.");
        SeepingRock x = Worlds.running();
        DOC.is("pore(4)", x.pore(4), Worlds.PORES);
        DOC.is("it has no THROATS", x.of(Worlds.PORES, 2), 0);
        DOC.is("the one ahead keeps its own", x.of(Worlds.PORES - 1, 2), 2);
        DOC.is("throat from it", x.throat(Worlds.PORES, 0), Worlds.THROATS);
        DOC.is("it has one", x.of(Worlds.PORES, 2), 1);
        DOC.is("the first has one more", x.of(0, 2), 3);
        DOC.is("the one ahead has as many", x.of(Worlds.PORES - 1, 2), 2);
    }

    static void promise2NumberKindIsnt0To4() {
        DOC.of("Promise 2", "NUMBER: kind isn't 0 to 4");
        for (int kind : Sentences.outside(0, 4)) {
            DOC.refused("pore(" + kind + ")", NUMBER, x -> x.pore(kind));
        }
    }

    static void promise2Full() {
        DOC.of("Promise 2", "FULL");
        DOC.refusedIn(Worlds::allPores, "pore(0)", SeepingRock.FULL, x -> x.pore(0));
        DOC.refusedIn(Worlds::allPores, "pore(4)", SeepingRock.FULL, x -> x.pore(4));
        DOC.of("Promise 2", "NUMBER: kind isn't 0 to 4; FULL.");
        DOC.refusedIn(Worlds::allPores, "pore(5)", NUMBER, x -> x.pore(5));
        DOC.refusedIn(Worlds::allPores, "pore(-1)", NUMBER, x -> x.pore(-1));
    }

    static void promise3AThroatComesItsNumber() {
        DOC.of("Promise 3", "A THROAT comes: its number.");
        SeepingRock x = Worlds.rock(0, 0, 0);
        DOC.is("throat(2, 0)", x.throat(2, 0), 0);
        DOC.is("throat(0, 2)", x.throat(0, 2), 1);
        DOC.is("about(0, 0)", x.about(0, 0), 2);
        DOC.is("about(0, 1)", x.about(0, 1), 0);
        DOC.is("about(1, 0)", x.about(1, 0), 0);
        DOC.is("about(1, 1)", x.about(1, 1), 2);
        DOC.is("many(1)", x.many(1), 2);
    }

    static void promise3NumberAOrBIsNoPore() {
        DOC.of("Promise 3", "NUMBER: a or b is no PORE");
        for (int p : Sentences.outside(0, Worlds.PORES - 1)) {
            DOC.refused("throat(" + p + ", 0)", NUMBER, x -> x.throat(p, 0));
            DOC.refused("throat(0, " + p + ")", NUMBER, x -> x.throat(0, p));
            DOC.refused("throat of two of " + p, NUMBER, x -> x.throat(p, p));
        }
        DOC.is("the last pore", Worlds.still().throat(Worlds.PORES - 1, 0), Worlds.THROATS);
        DOC.is("to the last pore", Worlds.still().throat(0, Worlds.PORES - 1), Worlds.THROATS);
    }

    static void promise3NumberOrTheyAreTheSame() {
        DOC.of("Promise 3", "or they are the same");
        DOC.refused("throat(0, 0)", NUMBER, x -> x.throat(0, 0));
        DOC.refused("of the last", NUMBER, x -> x.throat(Worlds.PORES - 1, Worlds.PORES - 1));
    }

    static void promise3Full() {
        DOC.of("Promise 3", "FULL");
        DOC.refusedIn(Worlds::allThroats, "throat(0, 1)", SeepingRock.FULL, x -> x.throat(0, 1));
        DOC.refusedIn(Worlds::allThroats, "throat(2, 0)", SeepingRock.FULL, x -> x.throat(2, 0));
        DOC.of("Promise 3", "NUMBER: a or b is no PORE, or they are the same; FULL.");
        DOC.refusedIn(Worlds::allThroats, "throat(3, 0)", NUMBER, x -> x.throat(3, 0));
        DOC.refusedIn(Worlds::allThroats, "throat(0, -1)", NUMBER, x -> x.throat(0, -1));
        DOC.refusedIn(Worlds::allThroats, "throat(1, 1)", NUMBER, x -> x.throat(1, 1));
    }

    static void promise4TheHindranceIsV() {
        DOC.of("Promise 4", "The HINDRANCE of a THROAT is v: 1.");
        for (int v : new int[] {0, 1, MOST_HINDRANCE - 1, MOST_HINDRANCE}) {
            SeepingRock x = Worlds.running();
            DOC.is("hinder(0, " + v + ")", x.hinder(0, v), 1);
            DOC.is("about(0, 2)", x.about(0, 2), v);
            DOC.is("the same again", x.hinder(0, v), 1);
            DOC.is("the last", x.hinder(Worlds.THROATS - 1, v), 1);
            DOC.is("it is SHUT still", x.about(Worlds.THROATS - 1, 4), -2);
            DOC.is("about the last", x.about(Worlds.THROATS - 1, 2), v);
        }
    }

    static void promise4NumberThereIsNoneSuch() {
        DOC.of("Promise 4", "NUMBER: there is none such");
        for (int t : Sentences.outside(0, Worlds.THROATS - 1)) {
            DOC.refused("hinder(" + t + ", 5)", NUMBER, x -> x.hinder(t, 5));
            DOC.refused("hinder(" + t + ", -1)", NUMBER, x -> x.hinder(t, -1));
        }
    }

    static void promise4NumberVIsnt0To1000000000() {
        DOC.of("Promise 4", "v isn't 0 to 1,000,000,000");
        for (int v : Sentences.outside(0, MOST_HINDRANCE)) {
            DOC.refused("hinder(0, " + v + ")", NUMBER, x -> x.hinder(0, v));
            DOC.refused("of a SHUT one", NUMBER, x -> x.hinder(Worlds.THROATS - 1, v));
        }
    }

    static void promise5OneIfThatChangesSomething() {
        DOC.of("Promise 5", "A THROAT is SHUT, or OPEN: 1 if that changes something, else 0.");
        for (int t : new int[] {0, Worlds.THROATS - 2}) {
            SeepingRock x = Worlds.running();
            DOC.is("OPEN already", x.shut(t, false), 0);
            DOC.is("about(t, 3)", x.about(t, 3), 1);
            DOC.is("SHUT", x.shut(t, true), 1);
            DOC.is("about(t, 3)", x.about(t, 3), 0);
            DOC.is("SHUT already", x.shut(t, true), 0);
            DOC.is("about(t, 3)", x.about(t, 3), 0);
            DOC.is("OPEN", x.shut(t, false), 1);
            DOC.is("about(t, 3)", x.about(t, 3), 1);
        }
        SeepingRock x = Worlds.running();
        DOC.is("the last is SHUT already", x.shut(Worlds.THROATS - 1, true), 0);
        DOC.is("its HINDRANCE stays", x.about(Worlds.THROATS - 1, 2), 4);
        DOC.is("the last is OPEN", x.shut(Worlds.THROATS - 1, false), 1);
        DOC.is("its RANK by that HINDRANCE", x.about(Worlds.THROATS - 1, 4), 2);
    }

    static void promise5NumberThereIsNoneSuch() {
        DOC.of("Promise 5", "NUMBER: there is none such.");
        for (int t : Sentences.outside(0, Worlds.THROATS - 1)) {
            DOC.refused("shut(" + t + ", true)", NUMBER, x -> x.shut(t, true));
            DOC.refused("shut(" + t + ", false)", NUMBER, x -> x.shut(t, false));
        }
    }

    static void promise6OneIfThatChangesSomething() {
        DOC.of("Promise 6", "A PORE is an INLET, or not: 1 if that changes something, else 0.");
        for (int p : new int[] {1, Worlds.PORES - 1}) {
            SeepingRock x = Worlds.running();
            DOC.is("none already", x.inlet(p, false), 0);
            DOC.is("of(p, 1)", x.of(p, 1), 0);
            DOC.is("one", x.inlet(p, true), 1);
            DOC.is("of(p, 1)", x.of(p, 1), 1);
            DOC.is("one already", x.inlet(p, true), 0);
            DOC.is("of(p, 1)", x.of(p, 1), 1);
            DOC.is("begin()", x.begin(), 2);
            DOC.is("none", x.inlet(p, false), 1);
            DOC.is("of(p, 1)", x.of(p, 1), 0);
        }
    }

    static void promise6NumberThereIsNoneSuch() {
        DOC.of("Promise 6", "NUMBER: there is none such.");
        for (int p : Sentences.outside(0, Worlds.PORES - 1)) {
            DOC.refused("inlet(" + p + ", true)", NUMBER, x -> x.inlet(p, true));
            DOC.refused("inlet(" + p + ", false)", NUMBER, x -> x.inlet(p, false));
        }
    }

    static void promise7OneIfThatChangesSomething() {
        DOC.of("Promise 7", "TRAPPING is on, or off: 1 if that changes something, else 0.");
        SeepingRock x = Worlds.rock(0);
        DOC.is("off at first", x.trapping(false), 0);
        DOC.is("on", x.trapping(true), 1);
        DOC.is("on already", x.trapping(true), 0);
        x.begin();
        DOC.is("it is on: many(4)", x.many(4), 1);
        DOC.is("off", x.trapping(false), 1);
        DOC.is("off already", x.trapping(false), 0);
        x.begin();
        DOC.is("it is off: many(4)", x.many(4), 0);
    }

    static void promise8OfAThroat() {
        DOC.of("Promise 8", "what = 0, 1 its PORES, 2 its HINDRANCE, 3 1 if it is OPEN, else 0, 4 its RANK (-2 if it is SHUT)");
        int[][] due = {{0, 1, 5, 1, 2}, {5, 6, 4, 0, -2}};
        for (int row = 0; row < 2; row++) {
            int t = row * (Worlds.THROATS - 1);
            for (int what = 0; what < 5; what++) {
                int asked = what;
                DOC.refused("about(" + t + ", " + what + ")", due[row][what], x -> x.about(t, asked));
            }
        }
    }

    static void promise8NumberThereIsNoneSuch() {
        DOC.of("Promise 8", "NUMBER: there is none such");
        for (int t : Sentences.outside(0, Worlds.THROATS - 1)) {
            for (int what = -1; what < 6; what++) {
                int asked = what;
                DOC.refused("about(" + t + ", " + what + ")", NUMBER, x -> x.about(t, asked));
            }
        }
    }

    static void promise8NumberAnotherWhat() {
        DOC.of("Promise 8", "another what.");
        for (int what : Sentences.outside(0, 4)) {
            DOC.refused("about(0, " + what + ")", NUMBER, x -> x.about(0, what));
            DOC.refused("about a SHUT one, " + what, NUMBER, x -> x.about(Worlds.THROATS - 1, what));
        }
    }

    static void promise9OfAPore() {
        DOC.of("Promise 9", "what = 0 its KIND, 1 1 if it is an INLET, else 0, 2 how many THROATS it has (SHUT ones, too)");
        int[][] due = {{0, 1, 2}, {1, 0, 3}, {2, 0, 2}, {3, 0, 2}, {4, 0, 2}, {0, 0, 3}, {0, 0, 2}};
        for (int p = 0; p < Worlds.PORES; p++) {
            for (int what = 0; what < 3; what++) {
                int pore = p;
                int asked = what;
                DOC.refused("of(" + p + ", " + what + ")", due[p][what], x -> x.of(pore, asked));
            }
        }
        DOC.is("with none at it", Worlds.allPores().of(118, 2), 0);
        DOC.is("with all at it", Worlds.allThroats().of(1, 2), 300);
        SeepingRock x = Worlds.chain(2);
        x.shut(0, true);
        DOC.is("with a SHUT one alone", x.of(1, 2), 1);
    }

    static void promise9NumberThereIsNoneSuch() {
        DOC.of("Promise 9", "NUMBER: there is none such");
        for (int p : Sentences.outside(0, Worlds.PORES - 1)) {
            for (int what = -1; what < 4; what++) {
                int asked = what;
                DOC.refused("of(" + p + ", " + what + ")", NUMBER, x -> x.of(p, asked));
            }
        }
    }

    static void promise9NumberAnotherWhat() {
        DOC.of("Promise 9", "another what.");
        for (int what : Sentences.outside(0, 2)) {
            DOC.refused("of(0, " + what + ")", NUMBER, x -> x.of(0, what));
            DOC.refused("of the last, " + what, NUMBER, x -> x.of(Worlds.PORES - 1, what));
        }
    }

    static void promise10TheThroatOfARank() {
        DOC.of("Promise 10", "The THROAT of a RANK");
        int[] due = {6, 1, 0, 2, 4, 5, 3};
        for (int rank = 0; rank < due.length; rank++) {
            int asked = rank;
            DOC.refused("ranked(" + rank + ")", due[rank], x -> x.ranked(asked));
        }
    }

    static void promise10MinusOneIfThereIsNoneSuch() {
        DOC.of("Promise 10", "-1 if there is none such.");
        for (int rank : Sentences.outside(0, Worlds.THROATS - 2)) {
            DOC.refused("ranked(" + rank + "), one is SHUT", -1, x -> x.ranked(rank));
        }
        SeepingRock x = Worlds.chain(2);
        DOC.is("ranked(0)", x.ranked(0), 0);
        x.shut(0, true);
        DOC.is("ranked(0), all are SHUT", x.ranked(0), -1);
    }
}

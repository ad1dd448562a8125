/** What the document says of the whole object: its 512 calls, the constants, and refusals in general. */
public final class ObjectEdgesTest {
    private static final Sentences DOC = new Sentences("ObjectEdgesTest");
    private static final int[] INTS = {Integer.MIN_VALUE, -1, 0, 1, 6, 60, 119, 300, Integer.MAX_VALUE};

    public static void main(String[] args) {
        DOC.holdAll(ObjectEdgesTest.class, "What it is", "Terms");
    }

    static void whatItIsAtMost512Calls() {
        DOC.of("What it is", "An object is used for at most 512 calls after it has been made");
        SeepingRock x = Worlds.rock(new int[120]);
        for (int t = 0; t < 300; t++) {
            x.throat(t % 119, t % 119 + 1);
        }
        x.inlet(0, true);
        DOC.is("call 422: begin()", x.begin(), 1);
        DOC.is("call 423: run(200)", x.run(200), 119);
        for (int call = 424; call < 510; call++) {
            DOC.is("call " + call + ": join(0, 119)", x.join(0, 119), 118);
        }
        DOC.is("call 510: copy()", x.copy(), 119);
        DOC.is("call 511: check()", x.check(), -1);
        DOC.is("call 512: undo(119)", x.undo(119), 0);
    }

    /** What they answer is free, but nothing says that they may throw. */
    static void whatItIsLaterCallsAreFree() {
        DOC.of("What it is", "what later calls answer is free.");
        SeepingRock x = Worlds.running();
        for (int call = 0; call < 2000; call++) {
            x.pore(call % 5);
            x.throat(call % 120, 0);
            x.claim(0);
            x.begin();
            x.run(3);
            x.check();
        }
        DOC.is("begin()", x.begin() > 0 ? 1 : 0, 1);
    }

    static void termsARefusedCallChangesNothing() {
        DOC.of("Terms", "A call that is refused (answers below 0, where not told otherwise) changes nothing.");
        SeepingRock x = Worlds.running();
        x.pore(5);
        x.throat(7, 0);
        x.throat(0, 7);
        x.throat(1, 1);
        x.hinder(8, 1);
        x.hinder(0, -1);
        x.shut(8, true);
        x.inlet(7, true);
        x.about(0, 5);
        x.of(0, 3);
        x.ranked(7);
        x.core(0, 6, 1);
        x.core(0, 0, -1);
        x.core(0, 0, 61);
        x.cell(0, 0, 1, 31);
        x.cell(5, 0, 1, 0);
        x.cell(0, 4, 1, 0);
        x.wild(0, 0, 4);
        x.wild(5, 0, 0);
        x.wild(2, 0, 0);
        x.wild(0, 4, 0);
        x.splice(6, 0, 0, 0, 0);
        x.splice(0, 0, 5, 0, 1);
        x.splice(0, 0, 1, 0, 1);
        x.splice(2, 0, 3, 1, 4);
        x.splice(2, 1, 3, 0, 4);
        x.lose(6);
        x.lose(5);
        x.pour(6, 0, 0, 0);
        x.pour(5, 0, 0, 0);
        x.pour(2, 0, 5, 0);
        x.pour(2, 0, 4, 5);
        x.run(201);
        x.undo(3);
        x.many(9);
        x.now(7, 0);
        x.lake(1, 0);
        x.worst(7);
        x.join(0, 7);
        x.claim(8);
        x.alter(3, 0);
        x.alter(0, 8);
        DOC.unchanged("all refused ones, one behind the other", x, Worlds.running());
    }

    /** Calls that more than one of their refusals fits, of two unlike answers: the pairs that the document's order decides. */
    static void termsTheFirstOneNamedIsAnswered() {
        DOC.of("Terms", "Of several refusals that a call names the first one named is answered.");
        int number = SeepingRock.NUMBER;
        int missing = SeepingRock.MISSING;
        int kind = SeepingRock.KIND;
        int state = SeepingRock.STATE;
        DOC.refusedIn(Worlds::allPores, "NUMBER, FULL: pore(5)", number, x -> x.pore(5));
        DOC.refusedIn(Worlds::allThroats, "NUMBER, FULL: throat(0, 0)", number, x -> x.throat(0, 0));
        DOC.refused("NUMBER, SIZE: core(6, 0, -1)", number, x -> x.core(6, 0, -1));
        DOC.refused("NUMBER, SIZE: core(0, 6, -1)", number, x -> x.core(0, 6, -1));
        DOC.refused("NUMBER, MISSING: cell(5, 0, 1, 31)", number, x -> x.cell(5, 0, 1, 31));
        DOC.refused("MISSING, NUMBER: cell(5, -1, 1, 0)", missing, x -> x.cell(5, -1, 1, 0));
        DOC.refused("NUMBER, MISSING: wild(5, 0, 4)", number, x -> x.wild(5, 0, 4));
        DOC.refused("NUMBER, KIND: wild(2, 0, 4)", number, x -> x.wild(2, 0, 4));
        DOC.refused("MISSING, NUMBER: wild(5, -1, 0)", missing, x -> x.wild(5, -1, 0));
        DOC.refused("KIND, NUMBER: wild(2, -1, 0)", kind, x -> x.wild(2, -1, 0));
        DOC.refused("NUMBER, MISSING: splice(5, 0, 6, 0, 0)", number, x -> x.splice(5, 0, 6, 0, 0));
        DOC.refused("MISSING, NUMBER: splice(5, 0, 0, -1, 0)", missing, x -> x.splice(5, 0, 0, -1, 0));
        DOC.refused("KIND, NUMBER: splice(2, 0, 0, 0, -1)", kind, x -> x.splice(2, 0, 0, 0, -1));
        DOC.refused("MISSING, NUMBER: pour(5, 0, -1, 0)", missing, x -> x.pour(5, 0, -1, 0));
        DOC.refusedIn(Worlds::still, "STATE, NUMBER: run(201)", state, x -> x.run(201));
        DOC.refusedIn(Worlds::still, "STATE, NUMBER: undo(-1)", state, x -> x.undo(-1));
        DOC.refusedIn(Worlds::still, "STATE, NUMBER: now(7, 4)", state, x -> x.now(7, 4));
        DOC.refusedIn(Worlds::still, "STATE, NUMBER: lake(-1, 4)", state, x -> x.lake(-1, 4));
        DOC.refusedIn(Worlds::still, "STATE, END: step()", state, x -> x.step());
        DOC.refusedIn(Worlds::allTold, "NUMBER, FULL: claim(2)", number, x -> x.claim(2));
    }

    static void termsTheConstants() {
        DOC.of("Terms", "NUMBER = -1");
        DOC.is("NUMBER", SeepingRock.NUMBER, -1);
        DOC.of("Terms", "FULL = -2");
        DOC.is("FULL", SeepingRock.FULL, -2);
        DOC.of("Terms", "MISSING = -3");
        DOC.is("MISSING", SeepingRock.MISSING, -3);
        DOC.of("Terms", "KIND = -4");
        DOC.is("KIND", SeepingRock.KIND, -4);
        DOC.of("Terms", "SIZE = -5");
        DOC.is("SIZE", SeepingRock.SIZE, -5);
        DOC.of("Terms", "STATE = -6");
        DOC.is("STATE", SeepingRock.STATE, -6);
        DOC.of("Terms", "END = -7");
        DOC.is("END", SeepingRock.END, -7);
        DOC.of("Terms", "APART = -8");
        DOC.is("APART", SeepingRock.APART, -8);
    }

    /** With every pair of strange numbers, in each state: a call that throws is a wrong answer. */
    static void termsNoNumbersMakeACallThrow() {
        DOC.of("Terms", "NUMBER = -1`: A number is none, or none that may be.");
        for (int a : INTS) {
            for (int b : INTS) {
                strange(new SeepingRock(), a, b);
                strange(Worlds.still(), a, b);
                strange(Worlds.running(), a, b);
                strange(Worlds.ended(), a, b);
            }
        }
        DOC.is("none threw", 0, 0);
    }

    private static void strange(SeepingRock x, int a, int b) {
        asked(x, a, b);
        for (int c : INTS) {
            x.core(a, b, c);
            x.cell(c, a, Long.MIN_VALUE, b);
            x.wild(c, a, b);
            x.lose(c);
            x.pour(0, a, b, c);
            x.pour(a, 0, b, c);
            x.splice(0, a, 1, b, c);
            x.splice(0, a, 0, b, c);
        }
        x.throat(a, b);
        x.hinder(a, b);
        x.shut(a, true);
        x.inlet(a, true);
        x.pore(a);
        x.claim(a);
        x.alter(a, b);
        x.begin();
        asked(x, a, b);
    }

    private static void asked(SeepingRock x, int a, int b) {
        x.about(a, b);
        x.of(a, b);
        x.ranked(a);
        x.told(a, b);
        x.many(a);
        x.opened(a);
        x.now(a, b);
        x.front(a);
        x.lake(a, b);
        x.worst(a);
        x.way(a, b);
        x.join(a, b);
        x.tree(a);
        x.run(a);
        x.step();
        x.undo(b);
        x.through();
        x.check();
        x.copy();
    }
}

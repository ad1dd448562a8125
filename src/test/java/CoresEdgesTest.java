/** Boundary cases of Promises 11 to 17; each test is named by the words that it holds. */
public final class CoresEdgesTest {
    private static final Sentences DOC = new Sentences("CoresEdgesTest");
    private static final int NUMBER = SeepingRock.NUMBER;
    private static final int MISSING = SeepingRock.MISSING;
    private static final int KIND = SeepingRock.KIND;
    private static final long NO_SUCH = Long.MAX_VALUE;
    private static final int FLOATS = 4;
    private static final int DOUBLES = 5;

    public static void main(String[] args) {
        DOC.holdAll(CoresEdgesTest.class, "Terms", "Promise 11", "Promise 12", "Promise 13", "Promise 14",
            "Promise 15", "Promise 16", "Promise 17");
    }

    static void terms1CoresAre0To5() {
        DOC.of("Terms", "CORES are 0 to 5");
        SeepingRock x = new SeepingRock();
        for (int c = 0; c < 6; c++) {
            DOC.is("core(" + c + ", 3, 1)", x.core(c, 3, 1), 1);
            DOC.is("cell(" + c + ", 0, c + 7, 0)", x.cell(c, 0, c + 7, 0), 1);
        }
        for (int c = 0; c < 6; c++) {
            DOC.is("told(" + c + ", 0)", x.told(c, 0), c + 7);
            DOC.is("lose(" + c + ")", x.lose(c), 1);
        }
    }

    static void terms1EachThereOrMissing() {
        DOC.of("Terms", "each there or MISSING");
        SeepingRock x = new SeepingRock();
        DOC.is("lose(0) at first", x.lose(0), MISSING);
        DOC.is("one with no numbers", x.core(0, 0, 0), 1);
        DOC.is("it is there: cell", x.cell(0, 0, 0, 0), NUMBER);
        DOC.is("it is there: splice", x.splice(0, 0, 0, 0, 0), 1);
        DOC.is("it is there: pour", x.pour(0, 0, 0, 0), 1);
        DOC.is("it is there: lose", x.lose(0), 1);
        DOC.is("it isn't now", x.cell(0, 0, 0, 0), MISSING);
    }

    static void terms1RowsOfBytesShortsIntsLongsFloatsOrDoubles() {
        DOC.of("Terms", "rows of bytes (kind 0), shorts (1), ints (2), longs (3), floats (4) or doubles (5)");
        long v = 0x0102030485868789L;
        long[] due = {(byte) v, (short) v, (int) v, v, (long) (float) v, (long) (double) v};
        SeepingRock x = new SeepingRock();
        for (int kind = 0; kind < 6; kind++) {
            DOC.is("core(" + kind + ", " + kind + ", 2)", x.core(kind, kind, 2), 1);
            DOC.is("cell(" + kind + ", 1, v, 0)", x.cell(kind, 1, v, 0), 1);
        }
        for (int kind = 0; kind < 6; kind++) {
            DOC.is("told(" + kind + ", 1)", x.told(kind, 1), due[kind]);
        }
    }

    static void promise11InPlaceOfOneThatWas() {
        DOC.of("Promise 11", "A CORE is there (in place of one that was), of that kind, with n numbers, all 0: 1.");
        for (int kind = 0; kind < 6; kind++) {
            SeepingRock x = Worlds.running();
            DOC.is("of 4", x.core(Worlds.DOUBLES, kind, 4), 1);
            zeros(x, Worlds.DOUBLES, 4);
            DOC.is("of 5, in its place", x.core(Worlds.DOUBLES, kind, 5), 1);
            zeros(x, Worlds.DOUBLES, 5);
            x.cell(Worlds.DOUBLES, 0, 9, 0);
            DOC.is("of 2, in its place", x.core(Worlds.DOUBLES, kind, 2), 1);
            zeros(x, Worlds.DOUBLES, 2);
            DOC.is("of 3, in its place", x.core(Worlds.DOUBLES, kind, 3), 1);
            zeros(x, Worlds.DOUBLES, 3);
            DOC.is("none is not a number", x.pour(Worlds.DOUBLES, 0, 3, 0), 1);
            DOC.is("each is poured", x.about(0, 3) + x.about(1, 3) + x.about(2, 3), 3);
            DOC.is("where one was MISSING", x.core(Worlds.MISSING, kind, 1), 1);
            zeros(x, Worlds.MISSING, 1);
        }
    }

    private static void zeros(SeepingRock x, int c, int n) {
        DOC.is("told(" + c + ", -1)", x.told(c, -1), NO_SUCH);
        for (int i = 0; i < n; i++) {
            DOC.is("told(" + c + ", " + i + ")", x.told(c, i), 0);
        }
        DOC.is("told(" + c + ", " + n + ")", x.told(c, n), NO_SUCH);
    }

    static void promise11OfThatKind() {
        DOC.of("Promise 11", "of that kind");
        long[] due = {-1, -1, -1, Long.MAX_VALUE, Long.MAX_VALUE, Long.MAX_VALUE};
        for (int kind = 0; kind < 6; kind++) {
            SeepingRock x = new SeepingRock();
            x.core(0, 5 - kind, 1);
            x.core(0, kind, 1);
            x.cell(0, 0, Long.MAX_VALUE, 0);
            DOC.is("told(0, 0)", x.told(0, 0), due[kind]);
            DOC.is("wild(0, 0, 3)", x.wild(0, 0, 3), kind < FLOATS ? KIND : 1);
        }
    }

    static void promise11WithNNumbersUpTo60() {
        DOC.of("Promise 11", "with n numbers");
        for (int kind = 0; kind < 6; kind++) {
            for (int n : new int[] {0, 1, 59, 60}) {
                SeepingRock x = new SeepingRock();
                DOC.is("core(5, " + kind + ", " + n + ")", x.core(5, kind, n), 1);
                zeros(x, 5, n);
                DOC.is("the last cell", x.cell(5, n - 1, 1, 0), n > 0 ? 1 : NUMBER);
                DOC.is("beyond it", x.cell(5, n, 1, 0), NUMBER);
                DOC.is("told of the last", x.told(5, n - 1), n > 0 ? 1 : NO_SUCH);
            }
        }
    }

    static void promise11NumberCIsnt0To5() {
        DOC.of("Promise 11", "NUMBER: c isn't 0 to 5");
        for (int c : Sentences.outside(0, 5)) {
            DOC.refused("core(" + c + ", 0, 1)", NUMBER, x -> x.core(c, 0, 1));
            DOC.refused("ahead of SIZE: core(" + c + ", 0, -1)", NUMBER, x -> x.core(c, 0, -1));
        }
    }

    static void promise11NumberKindNot0To5() {
        DOC.of("Promise 11", "or kind not 0 to 5");
        for (int kind : Sentences.outside(0, 5)) {
            DOC.refused("core(0, " + kind + ", 1)", NUMBER, x -> x.core(0, kind, 1));
            DOC.refused("core(5, " + kind + ", 1)", NUMBER, x -> x.core(5, kind, 1));
            DOC.refused("ahead of SIZE: core(0, " + kind + ", -1)", NUMBER, x -> x.core(0, kind, -1));
        }
    }

    static void promise11SizeNIsBelow0() {
        DOC.of("Promise 11", "SIZE: n is below 0");
        for (int n : new int[] {-1, -2, Integer.MIN_VALUE + 1, Integer.MIN_VALUE}) {
            for (int kind = 0; kind < 6; kind++) {
                int of = kind;
                DOC.refused("core(0, " + kind + ", " + n + ")", SeepingRock.SIZE, x -> x.core(0, of, n));
                DOC.refused("where one is MISSING", SeepingRock.SIZE, x -> x.core(Worlds.MISSING, of, n));
            }
        }
    }

    static void promise11NumberNIsAbove60() {
        DOC.of("Promise 11", "NUMBER: n is above 60.");
        for (int n : new int[] {61, 62, Integer.MAX_VALUE - 1, Integer.MAX_VALUE}) {
            for (int kind = 0; kind < 6; kind++) {
                int of = kind;
                DOC.refused("core(0, " + kind + ", " + n + ")", NUMBER, x -> x.core(0, of, n));
                DOC.refused("where one is MISSING", NUMBER, x -> x.core(Worlds.MISSING, of, n));
            }
        }
    }

    static void promise12AsItsKindCastsItWhateverKIs() {
        DOC.of("Promise 12", "Number i of a CORE becomes v as its kind casts it (whatever k is)");
        for (int k : new int[] {0, 1, 30}) {
            casts(0, k, 127, 127, 128, -128, -128, -128, -129, 127, 255, -1, 256, 0);
            casts(1, k, 32767, 32767, 32768, -32768, -32768, -32768, -32769, 32767, 65535, -1, 65536, 0);
            casts(2, k, 0x7fffffffL, 0x7fffffffL, 0x80000000L, -0x80000000L, -0x80000000L, -0x80000000L,
                -0x80000001L, 0x7fffffffL, 0xffffffffL, -1, 0x100000000L, 0);
            casts(3, k, 0x80000000L, 0x80000000L, (1L << 53) + 1, (1L << 53) + 1);
            for (int kind = 0; kind < 3; kind++) {
                casts(kind, k, Long.MAX_VALUE, -1, Long.MAX_VALUE - 1, -2, Long.MIN_VALUE, 0, Long.MIN_VALUE + 1, 1);
            }
            casts(3, k, Long.MAX_VALUE, Long.MAX_VALUE, Long.MAX_VALUE - 1, Long.MAX_VALUE - 1,
                Long.MIN_VALUE, Long.MIN_VALUE, Long.MIN_VALUE + 1, Long.MIN_VALUE + 1);
        }
    }

    /** Two numbers a cast: v, and what is told of it. */
    private static void casts(int kind, int k, long... rows) {
        SeepingRock x = new SeepingRock();
        x.core(0, kind, 3);
        for (int row = 0; row < rows.length; row += 2) {
            DOC.is("cell(0, 1, " + rows[row] + ", " + k + ") of kind " + kind, x.cell(0, 1, rows[row], k), 1);
            DOC.is("told of it", x.told(0, 1), rows[row + 1]);
        }
        DOC.is("the number ahead stays", x.told(0, 0), 0);
        DOC.is("the number behind stays", x.told(0, 2), 0);
    }

    static void promise12VDividedBy2ToTheK() {
        DOC.of("Promise 12", "of floats and doubles v / 2^k");
        for (int kind = FLOATS; kind <= DOUBLES; kind++) {
            casts(kind, 0, 7, 7, -7, -7, 0, 0);
            casts(kind, 1, 7, 3, -7, -3, 1, 0, -1, 0, 2, 1, -2, -1, 3, 1, -3, -1);
            casts(kind, 29, 1L << 29, 1, (1L << 29) - 32, 0, -(1L << 29), -1);
            casts(kind, 30, 1L << 30, 1, (1L << 30) - 64, 0, 1L << 29, 0, -(1L << 30), -1, 3L << 29, 1, 1L << 31, 2);
            casts(kind, 0, Long.MAX_VALUE, Long.MAX_VALUE, Long.MIN_VALUE, Long.MIN_VALUE,
                Long.MAX_VALUE - 1, Long.MAX_VALUE, Long.MIN_VALUE + 1, Long.MIN_VALUE);
            casts(kind, 1, Long.MAX_VALUE, 1L << 62, Long.MIN_VALUE, -(1L << 62));
            casts(kind, 30, Long.MAX_VALUE, 1L << 33, Long.MIN_VALUE, -(1L << 33));
        }
    }

    static void promise12TheNearestFloatOrDoubleOfV() {
        DOC.of("Promise 12", "the nearest float, or double, of v, divided by 2^k: 1.");
        long f = 1L << 24;
        casts(FLOATS, 0, f - 1, f - 1, f, f, f + 1, f, f + 2, f + 2, f + 3, f + 4, -f - 1, -f, -f - 3, -f - 4);
        casts(FLOATS, 1, 2 * f + 1, f, 2 * f + 2, f, 2 * f + 3, f + 2);
        casts(FLOATS, 0, 1000000031L, 1000000000L, 1000000033L, 1000000064L);
        long g = 1L << 60;
        casts(FLOATS, 0, g + (1L << 36), g, g + (1L << 36) + 1, g + (1L << 37));
        casts(DOUBLES, 0, f + 1, f + 1, -f - 1, -f - 1);
        casts(DOUBLES, 1, 2 * f + 3, f + 1);
        long d = 1L << 53;
        casts(DOUBLES, 0, d - 1, d - 1, d, d, d + 1, d, d + 2, d + 2, d + 3, d + 4, -d - 1, -d, -d - 3, -d - 4);
    }

    static void promise12ANumberInPlaceOfNone() {
        DOC.of("Promise 12", "Number i of a CORE becomes v");
        for (int c = Worlds.DOUBLES; c <= Worlds.FLOATS; c++) {
            SeepingRock x = Worlds.running();
            DOC.is("cell where there was none", x.cell(c, 1, 12, 1), 1);
            DOC.is("told of it", x.told(c, 1), 6);
            DOC.is("pour", x.pour(c, 1, 1, 0), 1);
            DOC.is("it is a number", x.about(0, 3), 1);
            DOC.is("that one", x.about(0, 2), 6);
        }
    }

    static void promise12NumberCIsnt0To5() {
        DOC.of("Promise 12", "NUMBER: c isn't 0 to 5");
        for (int c : Sentences.outside(0, 5)) {
            DOC.refused("cell(" + c + ", 0, 7, 0)", NUMBER, x -> x.cell(c, 0, 7, 0));
        }
    }

    static void promise12NumberKNot0To30() {
        DOC.of("Promise 12", "or k not 0 to 30");
        for (int k : Sentences.outside(0, 30)) {
            for (int c = 0; c < 6; c++) {
                int place = c;
                DOC.refused("cell(" + c + ", 0, 7, " + k + ")", NUMBER, x -> x.cell(place, 0, 7, k));
            }
        }
    }

    static void promise12Missing() {
        DOC.of("Promise 12", "MISSING");
        DOC.refused("cell(5, 0, 7, 0)", MISSING, x -> x.cell(Worlds.MISSING, 0, 7, 0));
        DOC.refused("ahead of the NUMBER of i", MISSING, x -> x.cell(Worlds.MISSING, -1, 7, 30));
        SeepingRock x = Worlds.running();
        x.lose(Worlds.LONGS);
        DOC.is("of one that is lost", x.cell(Worlds.LONGS, 0, 7, 0), MISSING);
    }

    static void promise12NumberItHasNoNumberI() {
        DOC.of("Promise 12", "NUMBER: it has no number i.");
        for (int i : Sentences.outside(0, Worlds.NUMBERS - 1)) {
            for (int c = 0; c < Worlds.NO_BYTES; c++) {
                int place = c;
                DOC.refused("cell(" + c + ", " + i + ", 7, 0)", NUMBER, x -> x.cell(place, i, 7, 0));
            }
        }
        for (int i : Sentences.outside(0, -1)) {
            DOC.refused("of one with no numbers", NUMBER, x -> x.cell(Worlds.NO_BYTES, i, 7, 0));
        }
    }

    static void promise13NotANumberEndlessOrMinusNought() {
        DOC.of("Promise 13", "becomes not a number (what = 0), endless (1), endless below 0 (2), -0.0 (3): 1.");
        long[] told = {0, Long.MAX_VALUE, Long.MIN_VALUE, 0};
        for (int c = Worlds.DOUBLES; c <= Worlds.FLOATS; c++) {
            for (int what = 0; what < 4; what++) {
                SeepingRock x = Worlds.running();
                DOC.is("wild(" + c + ", 0, " + what + ")", x.wild(c, 0, what), 1);
                DOC.is("wild of the last", x.wild(c, Worlds.NUMBERS - 1, what), 1);
                DOC.is("told of the first", x.told(c, 0), told[what]);
                DOC.is("told of the last", x.told(c, Worlds.NUMBERS - 1), told[what]);
                DOC.is("others stay", x.told(c, 2), Long.MIN_VALUE);
                DOC.is("a RUN stays", x.many(2), Worlds.STEPS);
                x.pour(c, 0, 1, 3);
                DOC.is("is it 0 to 1,000,000,000?", x.about(3, 3), what == 3 ? 1 : 0);
                DOC.is("the HINDRANCE by it", x.about(3, 2), what == 3 ? 0 : 9);
            }
        }
    }

    static void promise13NumberCIsnt0To5() {
        DOC.of("Promise 13", "NUMBER: c isn't 0 to 5");
        for (int c : Sentences.outside(0, 5)) {
            DOC.refused("wild(" + c + ", 0, 0)", NUMBER, x -> x.wild(c, 0, 0));
        }
    }

    static void promise13NumberWhatNot0To3() {
        DOC.of("Promise 13", "or what not 0 to 3");
        for (int what : Sentences.outside(0, 3)) {
            DOC.refused("wild(0, 0, " + what + ")", NUMBER, x -> x.wild(0, 0, what));
            DOC.refused("ahead of MISSING", NUMBER, x -> x.wild(Worlds.MISSING, 0, what));
            DOC.refused("ahead of KIND", NUMBER, x -> x.wild(Worlds.LONGS, 0, what));
        }
    }

    static void promise13Missing() {
        DOC.of("Promise 13", "MISSING");
        for (int what = 0; what < 4; what++) {
            int asked = what;
            DOC.refused("wild(5, 0, " + what + ")", MISSING, x -> x.wild(Worlds.MISSING, 0, asked));
            DOC.refused("ahead of the NUMBER of i", MISSING, x -> x.wild(Worlds.MISSING, -1, asked));
        }
        SeepingRock x = Worlds.running();
        x.lose(Worlds.LONGS);
        DOC.is("ahead of the KIND that a lost one had", x.wild(Worlds.LONGS, 0, 0), MISSING);
    }

    static void promise13KindItHasOtherNumbers() {
        DOC.of("Promise 13", "KIND: it has other numbers");
        for (int what = 0; what < 4; what++) {
            int asked = what;
            DOC.refused("of longs", KIND, x -> x.wild(Worlds.LONGS, 0, asked));
            DOC.refused("ahead of the NUMBER of i", KIND, x -> x.wild(Worlds.LONGS, Worlds.NUMBERS, asked));
            DOC.refused("of no bytes", KIND, x -> x.wild(Worlds.NO_BYTES, 0, asked));
        }
        for (int kind = 0; kind < 6; kind++) {
            SeepingRock x = new SeepingRock();
            x.core(0, kind, 1);
            DOC.is("of kind " + kind, x.wild(0, 0, 1), kind < FLOATS ? KIND : 1);
        }
    }

    static void promise13NumberItHasNoNumberI() {
        DOC.of("Promise 13", "NUMBER: it has no number i.");
        for (int i : Sentences.outside(0, Worlds.NUMBERS - 1)) {
            for (int c = Worlds.DOUBLES; c <= Worlds.FLOATS; c++) {
                int place = c;
                DOC.refused("wild(" + c + ", " + i + ", 1)", NUMBER, x -> x.wild(place, i, 1));
            }
        }
        SeepingRock x = new SeepingRock();
        x.core(0, DOUBLES, 0);
        DOC.is("wild of no doubles", x.wild(0, 0, 0), NUMBER);
        x.core(0, DOUBLES, 60);
        DOC.is("the last of 60", x.wild(0, 59, 1), 1);
        DOC.is("beyond 60", x.wild(0, 60, 1), NUMBER);
    }

    static void promise14CoreCGetsTheNNumbersOfCoreD() {
        DOC.of("Promise 14", "CORE c gets the n numbers of CORE d from i on, in place of its own from j on");
        splice(Worlds.LONGS, 0, Worlds.MORE_LONGS, 0, 4, 0, 0, Long.MIN_VALUE, 0);
        splice(Worlds.LONGS, 3, Worlds.MORE_LONGS, 2, 1, 1000000000L, 1000000001L, 0, Long.MIN_VALUE);
        splice(Worlds.LONGS, 0, Worlds.MORE_LONGS, 3, 1, 0, 1000000001L, 0, -1);
        splice(Worlds.MORE_LONGS, 1, Worlds.LONGS, 0, 3, 0, 1000000000L, 1000000001L, 0);
        splice(Worlds.DOUBLES, 0, Worlds.DOUBLES, 3, 1, 3, 0, Long.MIN_VALUE, 3);
        SeepingRock x = Worlds.running();
        x.splice(Worlds.LONGS, 0, Worlds.MORE_LONGS, 0, 4);
        DOC.is("d keeps its own", x.told(Worlds.MORE_LONGS, 2), Long.MIN_VALUE);
        DOC.is("a RUN stays", x.many(2), Worlds.STEPS);
    }

    private static void splice(int c, int j, int d, int i, int n, long... due) {
        SeepingRock x = Worlds.running();
        String call = "splice(" + c + ", " + j + ", " + d + ", " + i + ", " + n + ")";
        DOC.is(call, x.splice(c, j, d, i, n), 1);
        for (int k = 0; k < Worlds.NUMBERS; k++) {
            DOC.is(call + ", told(" + c + ", " + k + ")", x.told(c, k), due[k]);
        }
    }

    static void promise14AsIfAllWereReadAhead() {
        DOC.of("Promise 14", "(as if all were read ahead): 1.");
        long nine = 1000000000L;
        splice(Worlds.LONGS, 1, Worlds.LONGS, 0, 3, nine, nine, nine + 1, 0);
        splice(Worlds.LONGS, 0, Worlds.LONGS, 1, 3, nine + 1, 0, -1, -1);
        splice(Worlds.LONGS, 0, Worlds.LONGS, 0, 4, nine, nine + 1, 0, -1);
        SeepingRock x = new SeepingRock();
        x.core(0, DOUBLES, 60);
        for (int i = 0; i < 60; i++) {
            x.cell(0, i, i, 0);
        }
        DOC.is("59 of 60, one on", x.splice(0, 1, 0, 0, 59), 1);
        for (int i = 0; i < 60; i++) {
            DOC.is("told(0, " + i + ")", x.told(0, i), Math.max(0, i - 1));
        }
        DOC.is("59 of 60, one back", x.splice(0, 0, 0, 1, 59), 1);
        for (int i = 0; i < 60; i++) {
            DOC.is("told(0, " + i + ")", x.told(0, i), Math.min(58, i));
        }
    }

    static void promise14NotANumberGoesAlong() {
        DOC.of("Promise 14", "gets the n numbers");
        for (int c = Worlds.DOUBLES; c <= Worlds.FLOATS; c++) {
            SeepingRock x = Worlds.still();
            DOC.is("not a number to the end", x.splice(c, 3, c, 1, 1), 1);
            DOC.is("a number in its place", x.splice(c, 1, c, 0, 1), 1);
            x.pour(c, 1, 1, 0);
            DOC.is("it is one", x.about(0, 3), 1);
            x.pour(c, 3, 1, 0);
            DOC.is("it is none", x.about(0, 3), 0);
        }
    }

    static void promise14NumberCOrDIsnt0To5() {
        DOC.of("Promise 14", "NUMBER: c or d isn't 0 to 5");
        for (int c : Sentences.outside(0, 5)) {
            DOC.refused("c = " + c, NUMBER, x -> x.splice(c, 0, 0, 0, 1));
            DOC.refused("d = " + c, NUMBER, x -> x.splice(0, 0, c, 0, 1));
            DOC.refused("both = " + c, NUMBER, x -> x.splice(c, 0, c, 0, 0));
            DOC.refused("c = " + c + ", d is MISSING", NUMBER, x -> x.splice(c, 0, Worlds.MISSING, 0, 0));
            DOC.refused("d = " + c + ", c is MISSING", NUMBER, x -> x.splice(Worlds.MISSING, 0, c, 0, 0));
        }
    }

    static void promise14MissingOneIs() {
        DOC.of("Promise 14", "MISSING: one is");
        for (int n : new int[] {0, 1, -1, Integer.MAX_VALUE}) {
            DOC.refused("c is, n = " + n, MISSING, x -> x.splice(Worlds.MISSING, 0, 0, 0, n));
            DOC.refused("d is, n = " + n, MISSING, x -> x.splice(0, 0, Worlds.MISSING, 0, n));
            DOC.refused("both are, n = " + n, MISSING, x -> x.splice(Worlds.MISSING, 0, Worlds.MISSING, 0, n));
        }
        SeepingRock x = Worlds.running();
        x.lose(Worlds.LONGS);
        DOC.is("a lost one, of another kind", x.splice(0, 0, Worlds.LONGS, 0, 1), MISSING);
        DOC.is("a lost one, of one kind", x.splice(Worlds.MORE_LONGS, 0, Worlds.LONGS, 0, 1), MISSING);
    }

    static void promise14KindTheirKindsAreUnlike() {
        DOC.of("Promise 14", "KIND: their kinds are unlike");
        for (int c = 0; c < 6; c++) {
            for (int d = 0; d < 6; d++) {
                SeepingRock x = new SeepingRock();
                x.core(0, c, 1);
                x.core(1, d, 1);
                DOC.is("kinds " + c + ", " + d, x.splice(0, 0, 1, 0, 1), c == d ? 1 : KIND);
                DOC.is("kinds " + c + ", " + d + ", of none", x.splice(0, 0, 1, 0, 0), c == d ? 1 : KIND);
            }
        }
        for (int n : new int[] {0, 1, -1, 5, Integer.MIN_VALUE}) {
            DOC.refused("longs and doubles, n = " + n, KIND, x -> x.splice(Worlds.LONGS, 0, Worlds.DOUBLES, 0, n));
            DOC.refused("floats and doubles, n = " + n, KIND, x -> x.splice(Worlds.FLOATS, 0, Worlds.DOUBLES, 0, n));
            DOC.refused("ahead of the NUMBER of i", KIND, x -> x.splice(Worlds.FLOATS, -1, Worlds.DOUBLES, 5, n));
        }
    }

    static void promise14NumberNIOrJIsBelow0() {
        DOC.of("Promise 14", "NUMBER: n, i or j is below 0");
        for (int below : new int[] {-1, -2, Integer.MIN_VALUE + 1, Integer.MIN_VALUE}) {
            for (int d = Worlds.LONGS; d <= Worlds.MORE_LONGS; d++) {
                int from = d;
                DOC.refused("n = " + below, NUMBER, x -> x.splice(Worlds.LONGS, 1, from, 1, below));
                DOC.refused("i = " + below, NUMBER, x -> x.splice(Worlds.LONGS, 1, from, below, 1));
                DOC.refused("j = " + below, NUMBER, x -> x.splice(Worlds.LONGS, below, from, 1, 1));
                DOC.refused("i = " + below + ", of none", NUMBER, x -> x.splice(Worlds.LONGS, 1, from, below, 0));
                DOC.refused("j = " + below + ", of none", NUMBER, x -> x.splice(Worlds.LONGS, below, from, 1, 0));
            }
        }
        DOC.refused("n, i and j", NUMBER, x -> x.splice(Worlds.LONGS, -1, Worlds.LONGS, -1, -1));
    }

    static void promise14NNumbersGoBeyondTheEndOfOne() {
        DOC.of("Promise 14", "or n numbers from there on go beyond the end of one (0 may begin at the end)");
        int most = Integer.MAX_VALUE;
        int[][] refused = {{0, 0, 5}, {1, 0, 4}, {0, 1, 4}, {4, 0, 1}, {0, 4, 1}, {4, 4, 1}, {5, 0, 0}, {0, 5, 0},
            {5, 5, 0}, {0, 0, most}, {1, 1, most}, {4, 4, most}, {most, 0, 1}, {0, most, 1}, {most, most, most},
            {most, most, 0}, {most, 0, 0}, {0, most, 0}, {most, 1, most}, {1, most, most}, {most - 1, 0, 2}};
        for (int[] row : refused) {
            String call = "j = " + row[0] + ", i = " + row[1] + ", n = " + row[2];
            DOC.refused(call, NUMBER, x -> x.splice(Worlds.LONGS, row[0], Worlds.MORE_LONGS, row[1], row[2]));
            DOC.refused(call + ", of itself", NUMBER, x -> x.splice(Worlds.FLOATS, row[0], Worlds.FLOATS, row[1], row[2]));
        }
        int[][] taken = {{4, 0, 0}, {0, 4, 0}, {4, 4, 0}, {0, 0, 0}};
        for (int[] row : taken) {
            String call = "j = " + row[0] + ", i = " + row[1] + ", n = 0";
            DOC.refused(call, 1, x -> x.splice(Worlds.LONGS, row[0], Worlds.MORE_LONGS, row[1], row[2]));
        }
        DOC.refused("none of one with no numbers", 1, x -> x.splice(Worlds.NO_BYTES, 0, Worlds.NO_BYTES, 0, 0));
        DOC.refused("one of one with no numbers", NUMBER, x -> x.splice(Worlds.NO_BYTES, 0, Worlds.NO_BYTES, 0, 1));
    }

    static void promise14EndsOfUnlikeLengths() {
        DOC.of("Promise 14", "beyond the end of one");
        SeepingRock x = new SeepingRock();
        x.core(0, 2, 60);
        x.core(1, 2, 2);
        x.cell(1, 1, 8, 0);
        DOC.is("to the end of the longer", x.splice(0, 58, 1, 0, 2), 1);
        DOC.is("told of its last", x.told(0, 59), 8);
        DOC.is("beyond the end of the longer", x.splice(0, 59, 1, 0, 2), NUMBER);
        DOC.is("beyond the end of the shorter", x.splice(0, 0, 1, 0, 3), NUMBER);
        DOC.is("into the shorter beyond its end", x.splice(1, 0, 0, 0, 3), NUMBER);
        DOC.is("none at the end of the longer", x.splice(0, 60, 1, 2, 0), 1);
        DOC.is("none beyond the end of the longer", x.splice(0, 61, 1, 2, 0), NUMBER);
        DOC.is("none beyond the end of the shorter", x.splice(0, 60, 1, 3, 0), NUMBER);
        DOC.is("told of the shorter", x.told(1, 0), 0);
    }

    static void promise15ACoreIsMissingFromNowOn() {
        DOC.of("Promise 15", "A CORE is MISSING from now on: 1.");
        for (int c = 0; c < Worlds.MISSING; c++) {
            SeepingRock x = Worlds.running();
            DOC.is("lose(" + c + ")", x.lose(c), 1);
            DOC.is("told", x.told(c, 0), NO_SUCH);
            DOC.is("cell", x.cell(c, 0, 1, 0), MISSING);
            DOC.is("wild", x.wild(c, 0, 0), MISSING);
            DOC.is("pour", x.pour(c, 0, 0, 0), MISSING);
            DOC.is("splice", x.splice(c, 0, c, 0, 0), MISSING);
            DOC.is("lose again", x.lose(c), MISSING);
            DOC.is("a RUN stays", x.many(2), Worlds.STEPS);
            DOC.is("another stays", x.lose((c + 1) % Worlds.MISSING), 1);
            DOC.is("one comes again", x.core(c, 5, 2), 1);
            zeros(x, c, 2);
        }
    }

    static void promise15NumberCIsnt0To5() {
        DOC.of("Promise 15", "NUMBER: c isn't 0 to 5");
        for (int c : Sentences.outside(0, 5)) {
            DOC.refused("lose(" + c + ")", NUMBER, x -> x.lose(c));
        }
    }

    static void promise15MissingItIs() {
        DOC.of("Promise 15", "MISSING: it is.");
        DOC.refused("lose(5)", MISSING, x -> x.lose(Worlds.MISSING));
    }

    static void promise16ItsWholePartTowardsNought() {
        DOC.of("Promise 16", "its whole part towards nought, as a long (as the language casts it)");
        for (int kind = FLOATS; kind <= DOUBLES; kind++) {
            casts(kind, 2, 3, 0, -3, 0, 4, 1, -4, -1, 7, 1, -7, -1, 8, 2, -8, -2);
        }
        SeepingRock x = Worlds.still();
        DOC.is("not a number", x.told(Worlds.DOUBLES, 1), 0);
        DOC.is("endless below 0", x.told(Worlds.DOUBLES, 2), Long.MIN_VALUE);
        x.wild(Worlds.DOUBLES, 2, 1);
        DOC.is("endless", x.told(Worlds.DOUBLES, 2), Long.MAX_VALUE);
        x.wild(Worlds.DOUBLES, 2, 3);
        DOC.is("-0.0", x.told(Worlds.DOUBLES, 2), 0);
    }

    static void promise16TheGreatestLongIfThereIsNoneSuch() {
        DOC.of("Promise 16", "2^63 - 1 if c isn't 0 to 5, it is MISSING, or has none such.");
        for (int c : Sentences.outside(0, 5)) {
            DOC.refused("told(" + c + ", 0)", NO_SUCH, x -> x.told(c, 0));
        }
        for (int i : Sentences.outside(0, Worlds.NUMBERS - 1)) {
            for (int c = 0; c < 6; c++) {
                int place = c;
                DOC.refused("told(" + c + ", " + i + ")", NO_SUCH, x -> x.told(place, i));
            }
        }
        DOC.refused("told of one that is MISSING", NO_SUCH, x -> x.told(Worlds.MISSING, 0));
        DOC.refused("told of one with no numbers", NO_SUCH, x -> x.told(Worlds.NO_BYTES, 0));
    }

    static void promise17TheWholePartIsTheHindrance() {
        DOC.of("Promise 17", "the whole part (towards nought) is the HINDRANCE, and the THROAT is OPEN, if that whole part is 0 to 1,000,000,000");
        long most = 1000000000L;
        poured(0, 0, 0, 0, 1, 1, 127, 127);
        poured(1, 0, 0, 0, 32767, 32767);
        poured(2, 0, 0, 0, most, most);
        poured(3, 0, 0, 0, 1, 1, most - 1, most - 1, most, most);
        for (int kind = FLOATS; kind <= DOUBLES; kind++) {
            poured(kind, 0, 0, 0, most, most);
            poured(kind, 1, -1, 0, 1, 0, 3, 1, 2 * most, most);
            poured(kind, 30, -1, 0, -(1L << 30) + 64, 0, most << 30, most);
        }
        poured(DOUBLES, 1, 2 * most + 1, most);
        poured(FLOATS, 0, most + 31, most);
    }

    /** Two numbers a row: v of a cell, and the HINDRANCE that a SHUT THROAT gets from it, with which it is OPEN. */
    private static void poured(int kind, int k, long... rows) {
        for (int row = 0; row < rows.length; row += 2) {
            SeepingRock x = pouring(kind, k, rows[row]);
            DOC.is("kind " + kind + ", cell of " + rows[row] + " / 2^" + k, x.about(1, 2), rows[row + 1]);
            DOC.is("it is OPEN", x.about(1, 3), 1);
            DOC.is("the one ahead of it stays", x.about(0, 2), 6);
            DOC.is("the one behind it stays", x.about(2, 2), 6);
        }
    }

    /** Throat 1 has been SHUT, with HINDRANCE 5, when the cell came to it. */
    private static SeepingRock pouring(int kind, int k, long v) {
        SeepingRock x = Worlds.rock(0, 0);
        Worlds.throats(x, 0, 1, 6, 0, 1, 5, 0, 1, 6);
        x.shut(1, true);
        x.core(0, kind, 3);
        x.cell(0, 1, v, k);
        DOC.is("pour", x.pour(0, 1, 1, 1), 1);
        return x;
    }

    static void promise17ElseItKeepsItsHindranceAndIsShut() {
        DOC.of("Promise 17", "else (also if the number is none) it keeps its HINDRANCE and is SHUT: 1.");
        long most = 1000000000L;
        kept(0, 0, -1, 128, Long.MAX_VALUE);
        kept(1, 0, -1, 32768, Long.MAX_VALUE);
        kept(2, 0, -1, most + 1, Integer.MAX_VALUE, Integer.MIN_VALUE, Long.MAX_VALUE);
        kept(3, 0, -1, most + 1, 1L << 32, (1L << 32) + 5, (1L << 63) + 5, -(1L << 32), Long.MAX_VALUE, Long.MIN_VALUE);
        for (int kind = FLOATS; kind <= DOUBLES; kind++) {
            kept(kind, 0, -1, most + 64, 1L << 32, Long.MAX_VALUE, Long.MIN_VALUE);
            kept(kind, 1, -2, -3, 2 * most + 128);
            kept(kind, 30, -(1L << 30), (most + 64) << 30, Long.MAX_VALUE, Long.MIN_VALUE);
        }
        kept(DOUBLES, 0, most + 1);
        kept(DOUBLES, 1, 2 * most + 2);
        kept(FLOATS, 0, most + 33);
        for (int c = Worlds.DOUBLES; c <= Worlds.FLOATS; c++) {
            for (int what = 0; what < 3; what++) {
                SeepingRock x = Worlds.still();
                x.wild(c, 0, what);
                DOC.is("pour of wild " + what, x.pour(c, 0, 1, 3), 1);
                DOC.is("its HINDRANCE", x.about(3, 2), 9);
                DOC.is("it is SHUT", x.about(3, 4), -2);
            }
        }
    }

    private static void kept(int kind, int k, long... values) {
        for (long v : values) {
            SeepingRock x = pouring(kind, k, v);
            DOC.is("kind " + kind + ", cell of " + v + " / 2^" + k, x.about(1, 2), 5);
            DOC.is("it is SHUT still", x.about(1, 3), 0);
            x.shut(1, false);
            x.pour(0, 1, 1, 1);
            DOC.is("it is SHUT", x.about(1, 3), 0);
            DOC.is("others are OPEN", x.about(0, 3) + x.about(2, 3), 2);
        }
    }

    static void promise17NumbersIToIPlusNMinus1() {
        DOC.of("Promise 17", "Numbers i to i + n - 1 of a CORE come to THROATS t to t + n - 1");
        SeepingRock x = Worlds.rock(0, 0);
        for (int t = 0; t < 100; t++) {
            x.throat(0, 1);
        }
        x.core(0, 3, 60);
        for (int i = 0; i < 60; i++) {
            x.cell(0, i, 1000 + i, 0);
        }
        DOC.is("all 60 to the last ones", x.pour(0, 0, 60, 40), 1);
        for (int t = 0; t < 100; t++) {
            DOC.is("about(" + t + ", 2)", x.about(t, 2), t < 40 ? 0 : 1000 + t - 40);
        }
        DOC.is("the last one to the first", x.pour(0, 59, 1, 0), 1);
        DOC.is("about(0, 2)", x.about(0, 2), 1059);
        DOC.is("about(1, 2)", x.about(1, 2), 0);
        DOC.is("about(99, 4)", x.about(99, 4), 99);
        DOC.is("about(0, 4)", x.about(0, 4), 98);
    }

    static void promise17NumberCIsnt0To5() {
        DOC.of("Promise 17", "NUMBER: c isn't 0 to 5");
        for (int c : Sentences.outside(0, 5)) {
            DOC.refused("pour(" + c + ", 0, 1, 0)", NUMBER, x -> x.pour(c, 0, 1, 0));
            DOC.refused("pour(" + c + ", 0, 0, 0)", NUMBER, x -> x.pour(c, 0, 0, 0));
        }
    }

    static void promise17Missing() {
        DOC.of("Promise 17", "MISSING");
        DOC.refused("pour(5, 0, 1, 0)", MISSING, x -> x.pour(Worlds.MISSING, 0, 1, 0));
        DOC.refused("pour(5, 0, 0, 0)", MISSING, x -> x.pour(Worlds.MISSING, 0, 0, 0));
        DOC.refused("ahead of the last NUMBER", MISSING, x -> x.pour(Worlds.MISSING, -1, -1, -1));
    }

    static void promise17NumberNOrIIsBelow0() {
        DOC.of("Promise 17", "NUMBER: n or i is below 0");
        for (int below : new int[] {-1, -2, Integer.MIN_VALUE + 1, Integer.MIN_VALUE}) {
            DOC.refused("n = " + below, NUMBER, x -> x.pour(Worlds.LONGS, 0, below, 0));
            DOC.refused("n = " + below + ", i and t at the ends", NUMBER,
                x -> x.pour(Worlds.LONGS, Worlds.NUMBERS, below, Worlds.THROATS));
            DOC.refused("i = " + below, NUMBER, x -> x.pour(Worlds.LONGS, below, 1, 0));
            DOC.refused("i = " + below + ", of none", NUMBER, x -> x.pour(Worlds.LONGS, below, 0, 0));
            DOC.refused("both = " + below, NUMBER, x -> x.pour(Worlds.LONGS, below, below, 0));
        }
    }

    static void promise17NNumbersFromIOnGoBeyondTheCoresEnd() {
        DOC.of("Promise 17", "n numbers from i on go beyond the CORE's end");
        int most = Integer.MAX_VALUE;
        int[][] rows = {{0, 5}, {1, 4}, {3, 2}, {4, 1}, {5, 0}, {5, 1}, {0, most}, {1, most}, {most, 0}, {most, 1},
            {most, most}, {most - 1, 2}};
        for (int[] row : rows) {
            DOC.refused("i = " + row[0] + ", n = " + row[1], NUMBER, x -> x.pour(Worlds.LONGS, row[0], row[1], 0));
        }
        DOC.refused("one of no numbers", NUMBER, x -> x.pour(Worlds.NO_BYTES, 0, 1, 0));
        DOC.is("all of them", Worlds.still().pour(Worlds.LONGS, 0, 4, 0), 1);
        DOC.is("the last of them", Worlds.still().pour(Worlds.LONGS, 3, 1, 0), 1);
        DOC.is("none at the end", Worlds.still().pour(Worlds.LONGS, 4, 0, 0), 1);
        DOC.is("none of no numbers", Worlds.still().pour(Worlds.NO_BYTES, 0, 0, 0), 1);
    }

    static void promise17NumberTIsBelow0() {
        DOC.of("Promise 17", "t is below 0");
        for (int t : new int[] {-1, -2, Integer.MIN_VALUE + 1, Integer.MIN_VALUE}) {
            DOC.refused("t = " + t, NUMBER, x -> x.pour(Worlds.LONGS, 0, 1, t));
            DOC.refused("t = " + t + ", of none", NUMBER, x -> x.pour(Worlds.LONGS, 0, 0, t));
            DOC.refused("t = " + t + ", of four", NUMBER, x -> x.pour(Worlds.LONGS, 0, 4, t));
        }
    }

    static void promise17NumberTPlusNAboveHowManyThroatsThereAre() {
        DOC.of("Promise 17", "or t + n above how many THROATS there are.");
        int most = Integer.MAX_VALUE;
        int[][] rows = {{1, 8}, {2, 7}, {4, 5}, {0, 9}, {4, most}, {1, most}, {0, most}, {4, most - 3}};
        for (int[] row : rows) {
            DOC.refused("n = " + row[0] + ", t = " + row[1], NUMBER, x -> x.pour(Worlds.LONGS, 0, row[0], row[1]));
        }
        DOC.is("the last of them", Worlds.still().pour(Worlds.LONGS, 0, 1, 7), 1);
        DOC.is("the last four", Worlds.still().pour(Worlds.LONGS, 0, 4, 4), 1);
        DOC.is("none at the end", Worlds.still().pour(Worlds.LONGS, 0, 0, 8), 1);
        SeepingRock x = new SeepingRock();
        x.core(0, 0, 1);
        DOC.is("without THROATS", x.pour(0, 0, 1, 0), NUMBER);
        DOC.is("none without THROATS", x.pour(0, 0, 0, 0), 1);
    }

    static void promise17ARefusedOneChangesNoneOfTheThroats() {
        DOC.of("Promise 17", "NUMBER: n or i is below 0");
        for (int t = 5; t < 8; t++) {
            int from = t;
            DOC.refused("4 from throat " + t + " on", NUMBER, x -> x.pour(Worlds.LONGS, 0, 4, from));
        }
        for (int i = 1; i < 4; i++) {
            int from = i;
            DOC.refused("4 from number " + i + " on", NUMBER, x -> x.pour(Worlds.LONGS, from, 4, 0));
        }
    }
}

/** Promises 11 to 17: cores. */
public final class CoresTest {
    private static final Due DUE = new Due("CoresTest");
    private static final long NO_SUCH = Long.MAX_VALUE;

    public static void main(String[] args) {
        cores();
        cells();
        cellsOfParts();
        wilds();
        splices();
        spliceRefusals();
        losses();
        tellings();
        pours();
        poursOfParts();
        pourRefusals();
        DUE.end();
    }

    private static void cores() {
        SeepingRock x = new SeepingRock();
        DUE.is("11 c = 6", x.core(6, 0, 1), SeepingRock.NUMBER);
        DUE.is("11 c = -1", x.core(-1, 0, 1), SeepingRock.NUMBER);
        DUE.is("11 kind = 6", x.core(0, 6, 1), SeepingRock.NUMBER);
        DUE.is("11 kind = -1", x.core(0, -1, 1), SeepingRock.NUMBER);
        DUE.is("11 NUMBER of c ahead of SIZE", x.core(6, 0, -1), SeepingRock.NUMBER);
        DUE.is("11 NUMBER of kind ahead of SIZE", x.core(0, 6, -1), SeepingRock.NUMBER);
        DUE.is("11 n = -1", x.core(0, 0, -1), SeepingRock.SIZE);
        DUE.is("11 n = MIN", x.core(0, 0, Integer.MIN_VALUE), SeepingRock.SIZE);
        DUE.is("11 n = 61", x.core(0, 0, 61), SeepingRock.NUMBER);
        DUE.is("11 still missing", x.lose(0), SeepingRock.MISSING);
        DUE.is("11 n = 60", x.core(0, 0, 60), 1);
        DUE.is("11 the last is 0", x.told(0, 59), 0);
        DUE.is("11 no more", x.told(0, 60), NO_SUCH);
        x.cell(0, 0, 5, 0);
        DUE.is("11 refused in place of one", x.core(0, 0, 61), SeepingRock.NUMBER);
        DUE.is("11 it stays", x.told(0, 0), 5);
        DUE.is("11 in place of one", x.core(0, 5, 2), 1);
        DUE.is("11 all 0 again", x.told(0, 0), 0);
        DUE.is("11 its own length", x.told(0, 2), NO_SUCH);
        x.wild(0, 0, 0);
        x.core(0, 5, 1);
        x.pore(0);
        x.pore(0);
        x.throat(0, 1);
        x.pour(0, 0, 1, 0);
        DUE.is("11 a number again", x.about(0, 3), 1);
        DUE.is("11 n = 0", x.core(0, 3, 0), 1);
        DUE.is("11 none in it", x.told(0, 0), NO_SUCH);
        DUE.is("11 it is there", x.lose(0), 1);
    }

    private static void cells() {
        SeepingRock x = new SeepingRock();
        DUE.is("12 c = 6", x.cell(6, 0, 1, 0), SeepingRock.NUMBER);
        DUE.is("12 c = -1", x.cell(-1, 0, 1, 0), SeepingRock.NUMBER);
        DUE.is("12 k = 31", x.cell(0, 0, 1, 31), SeepingRock.NUMBER);
        DUE.is("12 k = -1 ahead of MISSING", x.cell(0, 0, 1, -1), SeepingRock.NUMBER);
        DUE.is("12 missing", x.cell(0, 0, 1, 0), SeepingRock.MISSING);
        for (int kind = 0; kind < 6; kind++) {
            x.core(kind, kind, 3);
        }
        DUE.is("12 k = 31 of bytes", x.cell(0, 0, 1, 31), SeepingRock.NUMBER);
        DUE.is("12 i = 3", x.cell(0, 3, 1, 0), SeepingRock.NUMBER);
        DUE.is("12 i = -1", x.cell(0, -1, 1, 0), SeepingRock.NUMBER);
        DUE.is("12 bytes", cell(x, 0, 2, 0x180L, 30), -128);
        DUE.is("12 shorts", cell(x, 1, 2, 0x18001L, 30), -32767);
        DUE.is("12 ints", cell(x, 2, 2, 0x180000002L, 30), Integer.MIN_VALUE + 2L);
        DUE.is("12 longs", cell(x, 3, 2, Long.MIN_VALUE + 1, 30), Long.MIN_VALUE + 1);
        DUE.is("12 others stay", x.told(3, 1), 0);
    }

    private static void cellsOfParts() {
        SeepingRock x = new SeepingRock();
        x.core(4, 4, 3);
        x.core(5, 5, 3);
        for (int c = 4; c < 6; c++) {
            DUE.is("12 halves", cell(x, c, 0, 7, 1), 3);
            DUE.is("12 towards nought", cell(x, c, 0, -7, 1), -3);
            DUE.is("12 less than one", cell(x, c, 0, -1, 30), 0);
            DUE.is("12 2^30 / 2^30", cell(x, c, 0, 1L << 30, 30), 1);
            DUE.is("12 greatest", cell(x, c, 0, Long.MAX_VALUE, 0), Long.MAX_VALUE);
            DUE.is("12 half of the greatest", cell(x, c, 0, Long.MAX_VALUE, 1), 1L << 62);
            DUE.is("12 least", cell(x, c, 0, Long.MIN_VALUE, 0), Long.MIN_VALUE);
        }
        DUE.is("12 nearest float", cell(x, 4, 1, (1L << 24) + 1, 0), 1L << 24);
        DUE.is("12 nearest float, to the even one", cell(x, 4, 1, (1L << 24) + 3, 0), (1L << 24) + 4);
        DUE.is("12 exact double", cell(x, 5, 1, (1L << 24) + 1, 0), (1L << 24) + 1);
        DUE.is("12 nearest double", cell(x, 5, 1, (1L << 53) + 1, 0), 1L << 53);
        // A float by way of a double would end at 2^60 here: both roundings would go down.
        DUE.is("12 rounded once", cell(x, 4, 1, (1L << 60) + (1L << 36) + 1, 0), (1L << 60) + (1L << 37));
        x.wild(4, 2, 0);
        DUE.is("12 a number in place of none", cell(x, 4, 2, 8, 2), 2);
        x.pore(0);
        x.pore(0);
        x.throat(0, 1);
        x.pour(4, 2, 1, 0);
        DUE.is("12 it is one", x.about(0, 2), 2);
    }

    private static long cell(SeepingRock x, int c, int i, long v, int k) {
        DUE.is("12 cell", x.cell(c, i, v, k), 1);
        return x.told(c, i);
    }

    private static void wilds() {
        SeepingRock x = new SeepingRock();
        DUE.is("13 c = 6", x.wild(6, 0, 0), SeepingRock.NUMBER);
        DUE.is("13 c = -1", x.wild(-1, 0, 0), SeepingRock.NUMBER);
        DUE.is("13 what = 4 ahead of MISSING", x.wild(0, 0, 4), SeepingRock.NUMBER);
        DUE.is("13 what = -1", x.wild(0, 0, -1), SeepingRock.NUMBER);
        DUE.is("13 missing", x.wild(0, 0, 0), SeepingRock.MISSING);
        for (int kind = 0; kind < 6; kind++) {
            x.core(kind, kind, 2);
            x.cell(kind, 1, 7, 0);
        }
        for (int kind = 0; kind < 4; kind++) {
            DUE.is("13 other numbers", x.wild(kind, 1, 0), SeepingRock.KIND);
            DUE.is("13 KIND ahead of the last NUMBER", x.wild(kind, 2, 0), SeepingRock.KIND);
            DUE.is("13 it stays", x.told(kind, 1), 7);
        }
        for (int kind = 4; kind < 6; kind++) {
            DUE.is("13 i = 2", x.wild(kind, 2, 0), SeepingRock.NUMBER);
            DUE.is("13 i = -1", x.wild(kind, -1, 0), SeepingRock.NUMBER);
            long[] wholes = {0, Long.MAX_VALUE, Long.MIN_VALUE, 0};
            for (int what = 0; what < 4; what++) {
                DUE.is("13 wild", x.wild(kind, 1, what), 1);
                DUE.is("13 told", x.told(kind, 1), wholes[what]);
            }
            DUE.is("13 others stay", x.told(kind, 0), 0);
        }
    }

    private static void splices() {
        for (int kind = 0; kind < 6; kind++) {
            SeepingRock x = counted(kind);
            DUE.is("14 from another", x.splice(0, 1, 1, 2, 2), 1);
            DUE.is("14 taken", row(x, 0), 1 * 10000 + 8 * 1000 + 9 * 100 + 4 * 10 + 5);
            DUE.is("14 the other stays", row(x, 1), 67890);
            x = counted(kind);
            DUE.is("14 forwards over itself", x.splice(0, 1, 0, 0, 4), 1);
            DUE.is("14 as if read ahead", row(x, 0), 11234);
            x = counted(kind);
            DUE.is("14 backwards over itself", x.splice(0, 0, 0, 1, 4), 1);
            DUE.is("14 as if read ahead too", row(x, 0), 23455);
            DUE.is("14 the whole", x.splice(0, 0, 1, 0, 5), 1);
            DUE.is("14 all of it", row(x, 0), 67890);
            DUE.is("14 nothing at both ends", x.splice(0, 5, 1, 5, 0), 1);
        }
        SeepingRock x = counted(5);
        x.wild(0, 0, 0);
        x.splice(0, 1, 0, 0, 2);
        x.pore(0);
        x.pore(0);
        x.throat(0, 1);
        x.pour(0, 1, 1, 0);
        DUE.is("14 not a number goes along", x.about(0, 3), 0);
        x.pour(0, 2, 1, 0);
        DUE.is("14 a number too", x.about(0, 2), 2);
        x.splice(0, 0, 0, 2, 1);
        x.pour(0, 0, 1, 0);
        DUE.is("14 a number in place of none", x.about(0, 3), 1);
    }

    private static void spliceRefusals() {
        SeepingRock x = counted(2);
        x.core(2, 3, 5);
        DUE.is("14 c = 6", x.splice(6, 0, 0, 0, 1), SeepingRock.NUMBER);
        DUE.is("14 d = -1", x.splice(0, 0, -1, 0, 1), SeepingRock.NUMBER);
        DUE.is("14 d = 6 ahead of MISSING", x.splice(3, 0, 6, 0, 1), SeepingRock.NUMBER);
        DUE.is("14 c is missing", x.splice(3, 0, 0, 0, 1), SeepingRock.MISSING);
        DUE.is("14 d is missing", x.splice(0, 0, 3, 0, -1), SeepingRock.MISSING);
        DUE.is("14 kinds", x.splice(0, 0, 2, 0, -1), SeepingRock.KIND);
        DUE.is("14 n = -1", x.splice(0, 0, 1, 0, -1), SeepingRock.NUMBER);
        DUE.is("14 i = -1", x.splice(0, 0, 1, -1, 1), SeepingRock.NUMBER);
        DUE.is("14 j = -1", x.splice(0, -1, 1, 0, 1), SeepingRock.NUMBER);
        DUE.is("14 beyond c", x.splice(0, 3, 1, 0, 3), SeepingRock.NUMBER);
        DUE.is("14 beyond d", x.splice(0, 0, 1, 3, 3), SeepingRock.NUMBER);
        DUE.is("14 nothing beyond the end of c", x.splice(0, 6, 1, 0, 0), SeepingRock.NUMBER);
        DUE.is("14 nothing beyond the end of d", x.splice(0, 0, 1, 6, 0), SeepingRock.NUMBER);
        DUE.is("14 wrapping", x.splice(0, 1, 1, 1, Integer.MAX_VALUE), SeepingRock.NUMBER);
        DUE.is("14 unchanged", row(x, 0), 12345);
        DUE.is("14 unchanged too", row(x, 1), 67890);
    }

    /** Core 0 holds 1 2 3 4 5, core 1 holds 6 7 8 9 0, both of one kind. */
    private static SeepingRock counted(int kind) {
        SeepingRock x = new SeepingRock();
        x.core(0, kind, 5);
        x.core(1, kind, 5);
        for (int i = 0; i < 5; i++) {
            x.cell(0, i, i + 1, 0);
            x.cell(1, i, (i + 6) % 10, 0);
        }
        return x;
    }

    private static long row(SeepingRock x, int c) {
        long row = 0;
        for (int i = 0; i < 5; i++) {
            row = row * 10 + x.told(c, i);
        }
        return row;
    }

    private static void losses() {
        SeepingRock x = counted(0);
        DUE.is("15 c = 6", x.lose(6), SeepingRock.NUMBER);
        DUE.is("15 c = -1", x.lose(-1), SeepingRock.NUMBER);
        DUE.is("15 missing", x.lose(2), SeepingRock.MISSING);
        DUE.is("15 lose", x.lose(0), 1);
        DUE.is("15 lost", x.lose(0), SeepingRock.MISSING);
        DUE.is("15 nothing told", x.told(0, 0), NO_SUCH);
        DUE.is("15 no splice", x.splice(1, 0, 0, 0, 0), SeepingRock.MISSING);
        DUE.is("15 the other stays", x.told(1, 0), 6);
        x.core(0, 0, 5);
        DUE.is("15 anew", x.told(0, 0), 0);
    }

    private static void tellings() {
        SeepingRock x = counted(5);
        DUE.is("16 c = 6", x.told(6, 0), NO_SUCH);
        DUE.is("16 c = -1", x.told(-1, 0), NO_SUCH);
        DUE.is("16 missing", x.told(2, 0), NO_SUCH);
        DUE.is("16 i = 5", x.told(0, 5), NO_SUCH);
        DUE.is("16 i = -1", x.told(0, -1), NO_SUCH);
        DUE.is("16 number", x.told(0, 4), 5);
        x.cell(0, 4, -15, 2);
        DUE.is("16 towards nought", x.told(0, 4), -3);
    }

    private static void pours() {
        SeepingRock x = ring(4);
        x.core(0, 3, 6);
        long[] values = {9, 1000000000, 1000000001, -1, 0, 1L << 32};
        for (int i = 0; i < 6; i++) {
            x.cell(0, i, values[i], 0);
        }
        x.hinder(2, 5);
        x.hinder(3, 6);
        x.shut(0, true);
        x.shut(1, true);
        DUE.is("17 pour", x.pour(0, 0, 4, 0), 1);
        throat(x, 0, 9, 1);
        throat(x, 1, 1000000000, 1);
        throat(x, 2, 5, 0);
        throat(x, 3, 6, 0);
        DUE.is("17 ranks", x.ranked(0) * 10 + x.ranked(1), 1);
        DUE.is("17 two of them", x.ranked(2), -1);
        DUE.is("17 some", x.pour(0, 4, 2, 2), 1);
        throat(x, 1, 1000000000, 1);
        throat(x, 2, 0, 1);
        throat(x, 3, 6, 0);
        DUE.is("17 none at the ends", x.pour(0, 6, 0, 4), 1);
        throat(x, 0, 9, 1);
    }

    private static void poursOfParts() {
        for (int kind = 4; kind < 6; kind++) {
            SeepingRock x = ring(6);
            x.core(0, kind, 6);
            x.cell(0, 0, -1, 1);
            for (int what = 0; what < 4; what++) {
                x.wild(0, what + 1, what);
            }
            x.cell(0, 5, 23, 3);
            for (int t = 0; t < 6; t++) {
                x.hinder(t, 4);
            }
            DUE.is("17 pour", x.pour(0, 0, 6, 0), 1);
            throat(x, 0, 0, 1);
            throat(x, 1, 4, 0);
            throat(x, 2, 4, 0);
            throat(x, 3, 4, 0);
            throat(x, 4, 0, 1);
            throat(x, 5, 2, 1);
        }
        SeepingRock x = ring(2);
        x.core(0, 5, 2);
        x.cell(0, 0, 2000000001L, 1);
        x.cell(0, 1, 2000000002L, 1);
        x.pour(0, 0, 2, 0);
        throat(x, 0, 1000000000, 1);
        throat(x, 1, 0, 0);
    }

    private static void pourRefusals() {
        SeepingRock x = ring(4);
        DUE.is("17 c = 6", x.pour(6, 0, 0, 0), SeepingRock.NUMBER);
        DUE.is("17 c = -1", x.pour(-1, 0, 0, 0), SeepingRock.NUMBER);
        DUE.is("17 missing", x.pour(0, -1, 0, 0), SeepingRock.MISSING);
        x.core(0, 0, 5);
        x.hinder(3, 8);
        DUE.is("17 n = -1", x.pour(0, 0, -1, 0), SeepingRock.NUMBER);
        DUE.is("17 i = -1", x.pour(0, -1, 1, 0), SeepingRock.NUMBER);
        DUE.is("17 beyond the core", x.pour(0, 4, 2, 0), SeepingRock.NUMBER);
        DUE.is("17 nothing beyond the core", x.pour(0, 6, 0, 0), SeepingRock.NUMBER);
        DUE.is("17 t = -1", x.pour(0, 0, 1, -1), SeepingRock.NUMBER);
        DUE.is("17 beyond the throats", x.pour(0, 0, 2, 3), SeepingRock.NUMBER);
        DUE.is("17 all beyond the throats", x.pour(0, 0, 5, 0), SeepingRock.NUMBER);
        DUE.is("17 nothing beyond the throats", x.pour(0, 0, 0, 5), SeepingRock.NUMBER);
        DUE.is("17 wrapping", x.pour(0, 1, Integer.MAX_VALUE, Integer.MAX_VALUE), SeepingRock.NUMBER);
        throat(x, 3, 8, 1);
    }

    private static void throat(SeepingRock x, int t, int hindrance, int open) {
        DUE.is("17 hindrance of " + t, x.about(t, 2), hindrance);
        DUE.is("17 open is " + t, x.about(t, 3), open);
    }

    private static SeepingRock ring(int throats) {
        SeepingRock x = new SeepingRock();
        for (int p = 0; p < 6; p++) {
            x.pore(0);
        }
        for (int t = 0; t < throats; t++) {
            x.throat(t, (t + 1) % 6);
        }
        return x;
    }
}

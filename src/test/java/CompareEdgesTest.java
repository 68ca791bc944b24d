/** Promise 5, sentence by sentence: compare at its edges, with the answers written out. */
public final class CompareEdgesTest {
    private static final int INT = Samples.INT;
    private static final int LONG = Samples.LONG;
    private static final int FLOAT = Samples.FLOAT;
    private static final int DOUBLE = Samples.DOUBLE;
    private static final Due DUE = new Due();

    public static void main(String[] args) {
        wholes();
        floats();
        doubles();
        zeros();
        nans();
        anotherType();
        DUE.end();
    }

    private static Trial trial(String sentence) {
        return new Trial(DUE, sentence);
    }

    /** Every pair of a row that ascends. */
    private static void ascends(Trial t, int type, long... row) {
        for (int i = 0; i < row.length; i++) {
            for (int j = 0; j < row.length; j++) {
                t.compare(row[i], row[j], type, i < j ? -1 : i > j ? 1 : 0);
            }
        }
    }

    private static void wholes() {
        Trial t = trial("-1, 0, 1: a is less than, the same as, greater than b, of TYPE 3, 4");
        ascends(t, INT, -2147483648L, -2147483647, -1, 0, 1, 2147483646, 2147483647);
        ascends(t, LONG, Long.MIN_VALUE, Long.MIN_VALUE + 1, -4294967297L, -1, 0, 1, 4294967296L, Long.MAX_VALUE);
        // As ints these are -1 and the least one, and two that are the same.
        t.compare(4294967295L, 0, INT, -1).compare(2147483648L, 2147483647, INT, -1).compare(4294967297L, 1, INT, 0);
        t.compare(4294967295L, 0, LONG, 1).compare(4294967297L, 1, LONG, 1);
    }

    private static void floats() {
        ascends(trial("-1, 0, 1 of TYPE 5"), FLOAT, 0xff800000L, 0xff7fffffL, 0xbf800001L, 0xbf800000L, 0x80800000L, 0x807fffffL,
            0x80000001L, 0, 1, 0x7fffffL, 0x800000L, 0x3f800000L, 0x3f800001L, 0x7f7fffffL, 0x7f800000L);
    }

    private static void doubles() {
        ascends(trial("-1, 0, 1 of TYPE 6"), DOUBLE, 0xfff0000000000000L, 0xffefffffffffffffL, 0xbff0000000000001L,
            0xbff0000000000000L, 0x8010000000000000L, 0x800fffffffffffffL, 0x8000000000000001L, 0, 1, 0xfffffffffffffL,
            0x10000000000000L, 0x3ff0000000000000L, 0x3ff0000000000001L, 0x7fefffffffffffffL, 0x7ff0000000000000L);
    }

    private static void zeros() {
        trial("0.0 and -0.0 are the same")
            .compare(0, 0x80000000L, FLOAT, 0).compare(0x80000000L, 0, FLOAT, 0).compare(0x80000000L, 0x80000000L, FLOAT, 0)
            .compare(0, 1L << 63, DOUBLE, 0).compare(1L << 63, 0, DOUBLE, 0).compare(1L << 63, 1L << 63, DOUBLE, 0)
            .compare(0x80000000L, 1, FLOAT, -1).compare(0x80000000L, 0x80000001L, FLOAT, 1)
            .compare(1L << 63, 1, DOUBLE, -1).compare(1L << 63, 0x8000000000000001L, DOUBLE, 1);
    }

    private static void nans() {
        Trial t = trial("2 if one is NaN");
        long[] floats = {0x7fc00000L, 0x7f800001L, 0x7fffffffL, 0xff800001L, 0xffc00000L, 0xffffffffL};
        for (long nan : floats) {
            t.compare(nan, 0, FLOAT, 2).compare(0, nan, FLOAT, 2).compare(nan, nan, FLOAT, 2).compare(nan, floats[0], FLOAT, 2);
            t.compare(nan, 0x7f800000L, FLOAT, 2).compare(0xff800000L, nan, FLOAT, 2);
        }
        long[] doubles = {0x7ff8000000000000L, 0x7ff0000000000001L, Long.MAX_VALUE, 0xfff0000000000001L, 0xfff8000000000000L, -1};
        for (long nan : doubles) {
            t.compare(nan, 0, DOUBLE, 2).compare(0, nan, DOUBLE, 2).compare(nan, nan, DOUBLE, 2).compare(nan, doubles[0], DOUBLE, 2);
            t.compare(nan, 0x7ff0000000000000L, DOUBLE, 2).compare(0xfff0000000000000L, nan, DOUBLE, 2);
        }
        // Infinities are no NaNs.
        t.compare(0x7f800000L, 0x7f800000L, FLOAT, 0).compare(0x7ff0000000000000L, 0x7ff0000000000000L, DOUBLE, 0);
    }

    private static void anotherType() {
        Trial t = trial("IllegalArgumentException for another TYPE");
        t.compare(1, 2, Samples.CHAR, Trial.ILLEGAL).compare(1, 2, Samples.BYTE, Trial.ILLEGAL).compare(1, 2, Samples.SHORT, Trial.ILLEGAL);
        for (int type : Samples.NO_TYPES) {
            t.compare(1, 2, type, Trial.ILLEGAL).compare(-1, -1, type, Trial.ILLEGAL);
        }
        t.compare(1, 2, INT, -1).compare(1, 2, DOUBLE, -1);
    }
}

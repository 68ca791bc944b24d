/** Promise 5: compare. */
public final class CompareTest {
    private static final Due DUE = new Due();
    private static final PrimitiveBits X = new PrimitiveBits();

    public static void main(String[] args) {
        check(0, 1L << 63, Samples.DOUBLE, 0);
        check(1L << 63, 0, Samples.DOUBLE, 0);
        check(0x80000000L, 0, Samples.FLOAT, 0);
        check(0xffffffffL, 1, Samples.INT, -1);
        check(0x500000001L, 1, Samples.INT, 0);
        check(0x100000000L, 0x80000000L, Samples.FLOAT, 0);
        check(Long.MIN_VALUE, Long.MAX_VALUE, Samples.LONG, -1);
        check(-1, -1, Samples.DOUBLE, 2);
        check(0, 0x7ff0000000000001L, Samples.DOUBLE, 2);
        check(0xff800001L, 0, Samples.FLOAT, 2);
        check(0x7ff0000000000000L, 0x7fefffffffffffffL, Samples.DOUBLE, 1);
        samples();
        refusals();
        DUE.end();
    }

    private static void check(long a, long b, int type, int want) {
        DUE.same("compare(" + a + ", " + b + ", " + type + ")", X.compare(a, b, type), want);
    }

    private static void samples() {
        for (long a : Samples.wholes()) {
            for (long b : Samples.wholes()) {
                check(a, b, Samples.INT, Integer.compare((int) a, (int) b));
                check(a, b, Samples.LONG, Long.compare(a, b));
            }
        }
        for (long a : Samples.floats()) {
            for (long b : Samples.floats()) {
                check(a, b, Samples.FLOAT, ofDoubles(Samples.floatOf(a), Samples.floatOf(b)));
            }
        }
        for (long a : Samples.doubles()) {
            for (long b : Samples.doubles()) {
                check(a, b, Samples.DOUBLE, ofDoubles(Samples.doubleOf(a), Samples.doubleOf(b)));
            }
        }
    }

    private static int ofDoubles(double a, double b) {
        return a < b ? -1 : a == b ? 0 : a > b ? 1 : 2;
    }

    private static void refusals() {
        for (int type = 0; type <= 2; type++) {
            refused(type);
        }
        for (int type : Samples.NO_TYPES) {
            refused(type);
        }
    }

    private static void refused(int type) {
        X.text(-77, Samples.INT);
        DUE.refused("compare(1, 2, " + type + ")", IllegalArgumentException.class, () -> X.compare(1, 2, type));
        DUE.same("the letters after compare(1, 2, " + type + ")", Samples.taken(X), "-77");
    }
}

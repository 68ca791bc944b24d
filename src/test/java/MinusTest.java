/** Promise 3: minus. */
public final class MinusTest {
    private static final Due DUE = new Due();
    private static final PrimitiveBits X = new PrimitiveBits();

    public static void main(String[] args) {
        check(Integer.MIN_VALUE, Samples.INT, Integer.MIN_VALUE);
        check(Long.MIN_VALUE, Samples.LONG, Long.MIN_VALUE);
        check(0x100000005L, Samples.INT, -5);
        check(0, Samples.FLOAT, 0x80000000L);
        check(0x80000000L, Samples.FLOAT, 0);
        check(0, Samples.DOUBLE, 1L << 63);
        check(1L << 63, Samples.DOUBLE, 0);
        check(0x777777773f800000L, Samples.FLOAT, 0xbf800000L);
        check(0xffffffffL, Samples.FLOAT, 0x7fc00000L);
        check(-1, Samples.DOUBLE, 0x7ff8000000000000L);
        samples();
        refusals();
        DUE.end();
    }

    private static void check(long v, int type, long want) {
        DUE.same("minus(" + v + ", " + type + ")", X.minus(v, type), want);
    }

    private static void samples() {
        for (long v : Samples.wholes()) {
            check(v, Samples.INT, -(int) v);
            check(v, Samples.LONG, -v);
        }
        for (long v : Samples.floats()) {
            check(v, Samples.FLOAT, Samples.bits(-Samples.floatOf(v)));
        }
        for (long v : Samples.doubles()) {
            check(v, Samples.DOUBLE, Samples.bits(-Samples.doubleOf(v)));
        }
    }

    private static void refusals() {
        for (int type = 0; type <= 2; type++) {
            refused(type);
        }
        for (int type : Samples.NO_TYPES) {
            refused(type);
        }
    }

    private static void refused(int type) {
        X.text(-77, Samples.INT);
        DUE.refused("minus(1, " + type + ")", IllegalArgumentException.class, () -> X.minus(1, type));
        DUE.same("the letters after minus(1, " + type + ")", Samples.taken(X), "-77");
    }
}

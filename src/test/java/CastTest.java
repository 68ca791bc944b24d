/** Promise 4: cast, against Java's own casts. */
public final class CastTest {
    private static final int DRAWN = 300_000;
    private static final Due DUE = new Due();
    private static final PrimitiveBits X = new PrimitiveBits();

    public static void main(String[] args) {
        writtenOut();
        for (long v : Samples.wholes()) {
            fromWholes(v);
            fromFloat(v);
            fromDouble(v);
        }
        for (long v : Samples.floats()) {
            fromFloat(v);
            fromFloat(v | 0xabcd000100000000L);
        }
        for (long v : Samples.doubles()) {
            fromDouble(v);
        }
        drawn();
        refusals();
        DUE.end();
    }

    private static void check(long v, int from, int to, long want) {
        DUE.same("cast(" + v + ", " + from + ", " + to + ")", X.cast(v, from, to), want);
    }

    private static void writtenOut() {
        check(-1, Samples.CHAR, Samples.CHAR, 65535);
        check(0x1ff80, Samples.BYTE, Samples.LONG, -128);
        check(0x18000, Samples.SHORT, Samples.INT, -32768);
        check(0x1ffffffffL, Samples.INT, Samples.LONG, -1);
        check(0x18000, Samples.CHAR, Samples.FLOAT, 0x47000000L);
        check(Long.MIN_VALUE, Samples.LONG, Samples.FLOAT, 0xdf000000L);
        check(Long.MAX_VALUE, Samples.LONG, Samples.FLOAT, 0x5f000000L);
        // Straight from long to float: by way of double it would be rounded twice.
        check(0x1000001000000001L, Samples.LONG, Samples.FLOAT, Samples.bits((float) 0x1000001000000001L));
        check(Samples.bits(1e10), Samples.DOUBLE, Samples.SHORT, -1);
        check(Samples.bits(-1e10), Samples.DOUBLE, Samples.SHORT, 0);
        check(Samples.bits(1e10), Samples.DOUBLE, Samples.CHAR, 65535);
        check(Samples.bits(-1.9f), Samples.FLOAT, Samples.CHAR, 65535);
        check(-1, Samples.FLOAT, Samples.FLOAT, 0x7fc00000L);
        check(-1, Samples.FLOAT, Samples.DOUBLE, 0x7ff8000000000000L);
        check(-1, Samples.DOUBLE, Samples.FLOAT, 0x7fc00000L);
        check(-1, Samples.DOUBLE, Samples.DOUBLE, 0x7ff8000000000000L);
        check(1L << 63, Samples.DOUBLE, Samples.FLOAT, 0x80000000L);
        check(1, Samples.DOUBLE, Samples.FLOAT, 0);
        check(1, Samples.FLOAT, Samples.DOUBLE, 0x36a0000000000000L);
    }

    private static void fromWholes(long v) {
        all(v, Samples.CHAR, (char) v);
        all(v, Samples.BYTE, (byte) v);
        all(v, Samples.SHORT, (short) v);
        all(v, Samples.INT, (int) v);
        all(v, Samples.LONG, v);
    }

    private static void all(long v, int from, long whole) {
        check(v, from, Samples.CHAR, (char) whole);
        check(v, from, Samples.BYTE, (byte) whole);
        check(v, from, Samples.SHORT, (short) whole);
        check(v, from, Samples.INT, (int) whole);
        check(v, from, Samples.LONG, whole);
        check(v, from, Samples.FLOAT, Samples.bits((float) whole));
        check(v, from, Samples.DOUBLE, Samples.bits((double) whole));
    }

    private static void fromFloat(long v) {
        float f = Samples.floatOf(v);
        check(v, Samples.FLOAT, Samples.CHAR, (char) f);
        check(v, Samples.FLOAT, Samples.BYTE, (byte) f);
        check(v, Samples.FLOAT, Samples.SHORT, (short) f);
        check(v, Samples.FLOAT, Samples.INT, (int) f);
        check(v, Samples.FLOAT, Samples.LONG, (long) f);
        check(v, Samples.FLOAT, Samples.FLOAT, Samples.bits(f));
        check(v, Samples.FLOAT, Samples.DOUBLE, Samples.bits((double) f));
    }

    private static void fromDouble(long v) {
        double d = Samples.doubleOf(v);
        check(v, Samples.DOUBLE, Samples.CHAR, (char) d);
        check(v, Samples.DOUBLE, Samples.BYTE, (byte) d);
        check(v, Samples.DOUBLE, Samples.SHORT, (short) d);
        check(v, Samples.DOUBLE, Samples.INT, (int) d);
        check(v, Samples.DOUBLE, Samples.LONG, (long) d);
        check(v, Samples.DOUBLE, Samples.FLOAT, Samples.bits((float) d));
        check(v, Samples.DOUBLE, Samples.DOUBLE, Samples.bits(d));
    }

    private static void drawn() {
        Samples samples = new Samples(4);
        for (int i = 0; i < DRAWN; i++) {
            fromWholes(samples.nextWhole());
            fromWholes(samples.next() & -1L << samples.below(64));
            fromFloat(samples.nextFloat());
            fromFloat(samples.floatNear(Samples.bits(1e9f), 36));
            fromDouble(samples.nextDouble());
            fromDouble(samples.doubleNear(Samples.bits(1e9), 70));
            // Halfway between two floats, and next to it; floats without a leading 1 too.
            long near = samples.doubleNear(Samples.bits(1.0), 152) & -1L << 28;
            fromDouble(near);
            fromDouble(near + samples.below(3) - 1);
        }
    }

    private static void refusals() {
        for (int type : Samples.NO_TYPES) {
            for (int other = 0; other <= 6; other++) {
                refused(type, other);
                refused(other, type);
            }
            refused(type, type);
        }
    }

    private static void refused(int from, int to) {
        String call = "cast(1, " + from + ", " + to + ")";
        X.text(-77, Samples.INT);
        DUE.refused(call, IllegalArgumentException.class, () -> X.cast(1, from, to));
        DUE.same("the letters after " + call, Samples.taken(X), "-77");
    }
}

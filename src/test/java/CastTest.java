/** Promise 4: cast, against Java's own casts. */
public final class CastTest {
    private static final int DRAWN = 300_000;
    private static final Due DUE = new Due();
    private static final Supply SUPPLY = new Supply();

    public static void main(String[] args) {
        for (long v : Samples.wholes()) {
            fromWholes(v);
            fromFloat(v);
            fromDouble(v);
        }
        for (long v : Samples.floats()) {
            fromFloat(v);
            fromFloat(v | 0xabcd000100000000L);
        }
        for (long v : Samples.doubles()) {
            fromDouble(v);
        }
        drawn();
        DUE.end();
    }

    private static void check(long v, int from, int to, long want) {
        long got = SUPPLY.object(1).cast(v, from, to);
        DUE.same(() -> "cast(" + v + ", " + from + ", " + to + ")", got, want);
    }

    private static void fromWholes(long v) {
        all(v, Samples.CHAR, (char) v);
        all(v, Samples.BYTE, (byte) v);
        all(v, Samples.SHORT, (short) v);
        all(v, Samples.INT, (int) v);
        all(v, Samples.LONG, v);
    }

    private static void all(long v, int from, long whole) {
        check(v, from, Samples.CHAR, (char) whole);
        check(v, from, Samples.BYTE, (byte) whole);
        check(v, from, Samples.SHORT, (short) whole);
        check(v, from, Samples.INT, (int) whole);
        check(v, from, Samples.LONG, whole);
        check(v, from, Samples.FLOAT, Samples.bits((float) whole));
        check(v, from, Samples.DOUBLE, Samples.bits((double) whole));
    }

    private static void fromFloat(long v) {
        float f = Samples.floatOf(v);
        check(v, Samples.FLOAT, Samples.CHAR, (char) f);
        check(v, Samples.FLOAT, Samples.BYTE, (byte) f);
        check(v, Samples.FLOAT, Samples.SHORT, (short) f);
        check(v, Samples.FLOAT, Samples.INT, (int) f);
        check(v, Samples.FLOAT, Samples.LONG, (long) f);
        check(v, Samples.FLOAT, Samples.FLOAT, Samples.bits(f));
        check(v, Samples.FLOAT, Samples.DOUBLE, Samples.bits((double) f));
    }

    private static void fromDouble(long v) {
        double d = Samples.doubleOf(v);
        check(v, Samples.DOUBLE, Samples.CHAR, (char) d);
        check(v, Samples.DOUBLE, Samples.BYTE, (byte) d);
        check(v, Samples.DOUBLE, Samples.SHORT, (short) d);
        check(v, Samples.DOUBLE, Samples.INT, (int) d);
        check(v, Samples.DOUBLE, Samples.LONG, (long) d);
        check(v, Samples.DOUBLE, Samples.FLOAT, Samples.bits((float) d));
        check(v, Samples.DOUBLE, Samples.DOUBLE, Samples.bits(d));
    }

    private static void drawn() {
        Samples samples = new Samples(4);
        for (int i = 0; i < DRAWN; i++) {
            fromWholes(samples.nextWhole());
            fromWholes(samples.next() & -1L << samples.below(64));
            fromFloat(samples.nextFloat());
            fromFloat(samples.floatNear(Samples.bits(1e9f), 36));
            fromDouble(samples.nextDouble());
            fromDouble(samples.doubleNear(Samples.bits(1e9), 70));
            // Halfway between two floats, and next to it; floats without a leading 1 too.
            long near = samples.doubleNear(Samples.bits(1.0), 152) & -1L << 28;
            fromDouble(near);
            fromDouble(near + samples.below(3) - 1);
        }
    }
}

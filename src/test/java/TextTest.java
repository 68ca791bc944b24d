/** Promise 6: text, against digits found by trying. */
public final class TextTest {
    private static final int DRAWN = 60_000;
    private static final Due DUE = new Due();
    private static final Supply SUPPLY = new Supply();

    public static void main(String[] args) {
        wholes();
        samples();
        drawn();
        DUE.end();
    }

    private static void check(long v, int type, String want) {
        String call = "text(" + v + ", " + type + ")";
        PrimitiveBits x = SUPPLY.object(1 + Samples.MOST_TAKES);
        DUE.same(call, x.text(v, type), want.length());
        DUE.same("the letters of " + call, Samples.taken(x), want);
    }

    private static void wholes() {
        for (long v : Samples.wholes()) {
            check(v, Samples.BYTE, Byte.toString((byte) v));
            check(v, Samples.SHORT, Short.toString((short) v));
            check(v, Samples.INT, Integer.toString((int) v));
            check(v, Samples.LONG, Long.toString(v));
        }
    }

    private static void samples() {
        for (long v : Samples.floats()) {
            asFound(Samples.floatOf(v));
        }
        for (long v : Samples.doubles()) {
            asFound(Samples.doubleOf(v));
        }
        // Below a power of two the next number is nearer than above; some of them are narrow misses.
        for (int power = -1074; power <= 1023; power++) {
            double v = Math.scalb(1.0, power);
            asFound(v);
            asFound(Math.nextUp(v));
            asFound(Math.nextDown(v));
            asFound((float) v);
            asFound(Math.nextUp((float) v));
            asFound(Math.nextDown((float) v));
        }
        for (int power = -324; power <= 308; power++) {
            for (int digits = 1; digits <= 99; digits++) {
                double v = Double.parseDouble(digits + "E" + power);
                asFound(v);
                asFound((float) v);
            }
            double v = Double.parseDouble("1E" + power);
            asFound(Math.nextDown(v));
            asFound(Math.nextUp(v));
        }
        for (int bits = 1; bits <= 2000; bits++) {
            asFound(Samples.doubleOf(bits));
            asFound(Samples.floatOf(bits));
        }
    }

    private static void drawn() {
        Samples samples = new Samples(5);
        for (int i = 0; i < DRAWN; i++) {
            asFound(Samples.doubleOf(samples.nextDouble()));
            asFound(Samples.doubleOf(samples.doubleNear(Samples.bits(1.0), 30)));
            asFound((double) samples.nextWhole());
            asFound(samples.below(100_000_000) / 1000.0);
            asFound(Samples.floatOf(samples.nextFloat()));
            asFound(Samples.floatOf(samples.floatNear(Samples.bits(1f), 30)));
            asFound((float) samples.nextWhole());
        }
    }

    private static void asFound(double v) {
        if (v != 0 && v - v == 0) {
            check(Samples.bits(v), Samples.DOUBLE, Shortest.text(v));
        }
    }

    private static void asFound(float v) {
        if (v != 0 && v - v == 0) {
            check(Samples.bits(v), Samples.FLOAT, Shortest.text(v));
        }
    }
}

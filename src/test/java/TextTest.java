/** Promise 6: text. */
public final class TextTest {
    private static final int DRAWN = 60_000;
    private static final Due DUE = new Due();
    private static final PrimitiveBits X = new PrimitiveBits();

    public static void main(String[] args) {
        wholes();
        named();
        writtenOut();
        samples();
        drawn();
        replaced();
        refusals();
        DUE.end();
    }

    private static void check(long v, int type, String want) {
        String call = "text(" + v + ", " + type + ")";
        DUE.same(call, X.text(v, type), want.length());
        DUE.same("the letters of " + call, Samples.taken(X), want);
    }

    private static void check(double v, String want) {
        check(Samples.bits(v), Samples.DOUBLE, want);
    }

    private static void check(float v, String want) {
        check(Samples.bits(v), Samples.FLOAT, want);
    }

    private static void wholes() {
        for (long v : Samples.wholes()) {
            check(v, Samples.BYTE, Byte.toString((byte) v));
            check(v, Samples.SHORT, Short.toString((short) v));
            check(v, Samples.INT, Integer.toString((int) v));
            check(v, Samples.LONG, Long.toString(v));
        }
        check(0x1ff, Samples.BYTE, "-1");
        check(0x18000, Samples.SHORT, "-32768");
        check(0x180000000L, Samples.INT, "-2147483648");
        check(Long.MIN_VALUE, Samples.LONG, "-9223372036854775808");
        check(0, Samples.LONG, "0");
    }

    private static void named() {
        check(0x7ff8000000000000L, Samples.DOUBLE, "NaN");
        check(-1, Samples.DOUBLE, "NaN");
        check(0xffc00000L, Samples.FLOAT, "NaN");
        check(0x7f800001L, Samples.FLOAT, "NaN");
        check(0x7ff0000000000000L, Samples.DOUBLE, "Infinity");
        check(0xfff0000000000000L, Samples.DOUBLE, "-Infinity");
        check(0x7f800000L, Samples.FLOAT, "Infinity");
        check(0xff800000L, Samples.FLOAT, "-Infinity");
        check(0, Samples.DOUBLE, "0.0");
        check(1L << 63, Samples.DOUBLE, "-0.0");
        check(0x500000000L, Samples.FLOAT, "0.0");
        check(0x80000000L, Samples.FLOAT, "-0.0");
    }

    private static void writtenOut() {
        check(1.0, "1.0");
        check(-1.5, "-1.5");
        check(100.0, "100.0");
        check(123456.789, "123456.789");
        check(0.001, "0.001");
        check(0.0010000000000000002, "0.0010000000000000002");
        check(9.999999999999998E-4, "9.999999999999998E-4");
        check(0.0012345678901234567, "0.0012345678901234567");
        check(9999999.999999998, "9999999.999999998");
        check(1e7, "1.0E7");
        check(-1.2345678E7, "-1.2345678E7");
        check(2.0E-3, "0.002");
        check(2.2E-322, "2.2E-322");
        check(9.007199254740992E15, "9.007199254740992E15");
        check(Double.MAX_VALUE, "1.7976931348623157E308");
        check(-2.2250738585072014E-308, "-2.2250738585072014E-308");
        check(Double.MIN_VALUE, "4.9E-324");
        check(0.001f, "0.001");
        check(9.999999E-4f, "9.999999E-4");
        check(9999999f, "9999999.0");
        check(1e7f, "1.0E7");
        check(16777216f, "1.6777216E7");
        check(3.4028235E38f, "3.4028235E38");
        check(Float.MIN_VALUE, "1.4E-45");
        check(1.1754944E-38f, "1.1754944E-38");
        check(0.3f, "0.3");
        // Java 17's own toString has more digits or a farther decimal for these.
        check(1e23, "1.0E23");
        check(2e23, "2.0E23");
        check(0x1p-44, "5.684341886080802E-14");
        check(2 * Double.MIN_VALUE, "9.9E-324");
        // Halfway between two decimals of as few digits: the even one.
        check(1125899906842624.25, "1.1258999068426242E15");
        check(1125899906842624.75, "1.1258999068426248E15");
        check(0.0205078125f, "0.020507812");
        check(1903976.75f, "1903976.8");
        // A decimal halfway to the next number is read as the even one of the two.
        check(67108896f, "6.71089E7");
    }

    private static void samples() {
        for (long v : Samples.floats()) {
            asFound(Samples.floatOf(v));
        }
        for (long v : Samples.doubles()) {
            asFound(Samples.doubleOf(v));
        }
        // Below a power of two the next number is nearer than above; some of them are narrow misses.
        for (int power = -1074; power <= 1023; power++) {
            double v = Math.scalb(1.0, power);
            asFound(v);
            asFound(Math.nextUp(v));
            asFound(Math.nextDown(v));
            asFound((float) v);
            asFound(Math.nextUp((float) v));
            asFound(Math.nextDown((float) v));
        }
        for (int power = -324; power <= 308; power++) {
            for (int digits = 1; digits <= 99; digits++) {
                double v = Double.parseDouble(digits + "E" + power);
                asFound(v);
                asFound((float) v);
            }
            double v = Double.parseDouble("1E" + power);
            asFound(Math.nextDown(v));
            asFound(Math.nextUp(v));
        }
        for (int bits = 1; bits <= 2000; bits++) {
            asFound(Samples.doubleOf(bits));
            asFound(Samples.floatOf(bits));
        }
    }

    private static void drawn() {
        Samples samples = new Samples(5);
        for (int i = 0; i < DRAWN; i++) {
            asFound(Samples.doubleOf(samples.nextDouble()));
            asFound(Samples.doubleOf(samples.doubleNear(Samples.bits(1.0), 30)));
            asFound((double) samples.nextWhole());
            asFound(samples.below(100_000_000) / 1000.0);
            asFound(Samples.floatOf(samples.nextFloat()));
            asFound(Samples.floatOf(samples.floatNear(Samples.bits(1f), 30)));
            asFound((float) samples.nextWhole());
        }
    }

    private static void asFound(double v) {
        if (v != 0 && v - v == 0) {
            check(v, Shortest.text(v));
        }
    }

    private static void asFound(float v) {
        if (v != 0 && v - v == 0) {
            check(v, Shortest.text(v));
        }
    }

    private static void replaced() {
        DUE.same("text(-9223372036854775808, 4)", X.text(Long.MIN_VALUE, Samples.LONG), 20);
        DUE.same("text(5, 3)", X.text(5, Samples.INT), 1);
        DUE.same("what was before is gone", Samples.taken(X), "5");
        X.text(Long.MIN_VALUE, Samples.LONG);
        X.take();
        DUE.same("text(678, 3)", X.text(678, Samples.INT), 3);
        DUE.same("what was before is gone, taken in part too", Samples.taken(X), "678");
        X.text(1234, Samples.INT);
        X.binary(0, 1, 2, Samples.INT);
        X.minus(1, Samples.INT);
        X.cast(1, Samples.INT, Samples.DOUBLE);
        X.compare(1, 2, Samples.INT);
        DUE.same("other calls leave the letters alone", Samples.taken(X), "1234");
    }

    private static void refusals() {
        refused(Samples.CHAR);
        for (int type : Samples.NO_TYPES) {
            refused(type);
        }
    }

    private static void refused(int type) {
        X.text(-123456789012L, Samples.LONG);
        X.take();
        DUE.refused("text(1, " + type + ")", IllegalArgumentException.class, () -> X.text(1, type));
        DUE.same("the letters after text(1, " + type + ")", Samples.taken(X), "89012");
    }
}

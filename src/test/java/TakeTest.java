/** Promise 7: take. */
public final class TakeTest {
    private static final Due DUE = new Due();
    private static final PrimitiveBits X = new PrimitiveBits();

    public static void main(String[] args) {
        X.text(12, Samples.INT);
        DUE.same("take() of 12", X.take(), 0x3132);
        X.text(-1234567, Samples.INT);
        DUE.same("take() of -1234567", X.take(), 0x2d31323334353637L);
        DUE.same("take() when all are gone", X.take(), 0);
        taken(7, Samples.INT, "7");
        taken(1234567, Samples.INT, "1234567");
        taken(12345678, Samples.INT, "12345678");
        taken(123456789, Samples.INT, "12345678", "9");
        taken(1234567890123456L, Samples.LONG, "12345678", "90123456");
        taken(-9223372036854775808L, Samples.LONG, "-9223372", "03685477", "5808");
        taken(Samples.bits(-2.2250738585072014E-308), Samples.DOUBLE, "-2.22507", "38585072", "014E-308");
        taken(0xfff0000000000000L, Samples.DOUBLE, "-Infinit", "y");
        taken(-1, Samples.DOUBLE, "NaN");
        DUE.end();
    }

    private static void taken(long v, int type, String... parts) {
        DUE.same("text(" + v + ", " + type + ")", X.text(v, type), String.join("", parts).length());
        for (String part : parts) {
            DUE.same("take() of " + part, X.take(), packed(part));
        }
        DUE.same("take() behind the end", X.take(), 0);
        DUE.same("take() behind the end again", X.take(), 0);
    }

    private static long packed(String part) {
        long all = 0;
        for (int i = 0; i < part.length(); i++) {
            all = all * 256 + part.charAt(i);
        }
        return all;
    }
}

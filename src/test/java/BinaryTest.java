/** Promise 2: binary, against Java's own operators. */
public final class BinaryTest {
    private static final int DRAWN = 400_000;
    private static final long NAN = 0x7ff8000000000000L;
    private static final long FLOAT_NAN = 0x7fc00000L;
    private static final Due DUE = new Due();
    private static final PrimitiveBits X = new PrimitiveBits();

    public static void main(String[] args) {
        writtenOut();
        wholes();
        floats();
        doubles();
        refusals();
        DUE.end();
    }

    private static void check(int op, long a, long b, int type, long want) {
        DUE.same("binary(" + op + ", " + a + ", " + b + ", " + type + ")", X.binary(op, a, b, type), want);
    }

    private static void writtenOut() {
        check(0, 0x7fffffff, 1, Samples.INT, -0x80000000L);
        check(0, Long.MAX_VALUE, 1, Samples.LONG, Long.MIN_VALUE);
        check(3, Integer.MIN_VALUE, -1, Samples.INT, Integer.MIN_VALUE);
        check(4, Integer.MIN_VALUE, -1, Samples.INT, 0);
        check(3, Long.MIN_VALUE, -1, Samples.LONG, Long.MIN_VALUE);
        check(4, Long.MIN_VALUE, -1, Samples.LONG, 0);
        check(8, 1, 32, Samples.INT, 1);
        check(8, 1, 32, Samples.LONG, 1L << 32);
        check(8, 1, 64, Samples.LONG, 1);
        check(10, -1, 0, Samples.INT, -1);
        check(10, -1, -1, Samples.INT, 1);
        check(10, -1, -1, Samples.LONG, 1);
        // Of other longs the low 32 bits count.
        check(0, 0x500000001L, 0x700000002L, Samples.INT, 3);
        check(0, 0x80000000L, 0, Samples.INT, -0x80000000L);
        check(0, 0x123456783f800000L, 0xffffffff3f800000L, Samples.FLOAT, 0x40000000L);
        // A sum of opposites is +0, of two -0 it is -0; a negative float has no bits above its own.
        check(0, 0x8000000000000000L, 0x8000000000000000L, Samples.DOUBLE, 0x8000000000000000L);
        check(1, 0x8000000000000000L, 0, Samples.DOUBLE, 0x8000000000000000L);
        check(1, 0x8000000000000000L, 0x8000000000000000L, Samples.DOUBLE, 0);
        check(2, 0xbf800000L, 0x3f800000L, Samples.FLOAT, 0xbf800000L);
        check(4, -0x40800000L, 0x7f800000L, Samples.FLOAT, 0xbf800000L);
        // Every NaN is answered as the same one.
        check(0, -1, 0, Samples.DOUBLE, NAN);
        check(0, 0, 0x7ff0000000000001L, Samples.DOUBLE, NAN);
        check(4, 0x7ff0000000000000L, 0x3ff0000000000000L, Samples.DOUBLE, NAN);
        check(3, 0, 0x8000000000000000L, Samples.DOUBLE, NAN);
        check(0, 0xffffffffL, 0, Samples.FLOAT, FLOAT_NAN);
        check(3, 0x80000000L, 0, Samples.FLOAT, FLOAT_NAN);
        check(2, 0x7f800000L, 0x80000000L, Samples.FLOAT, FLOAT_NAN);
    }

    private static void wholes() {
        for (long a : Samples.wholes()) {
            for (long b : Samples.wholes()) {
                allWhole(a, b);
            }
        }
        Samples samples = new Samples(1);
        for (int i = 0; i < DRAWN; i++) {
            allWhole(samples.nextWhole(), samples.nextWhole());
        }
    }

    private static void allWhole(long a, long b) {
        for (int op = 0; op <= 10; op++) {
            if ((int) b != 0 || op != 3 && op != 4) {
                check(op, a, b, Samples.INT, ofInts(op, (int) a, (int) b));
            }
            if (b != 0 || op != 3 && op != 4) {
                check(op, a, b, Samples.LONG, ofLongs(op, a, b));
            }
        }
    }

    private static int ofInts(int op, int a, int b) {
        return switch (op) {
            case 0 -> a + b;
            case 1 -> a - b;
            case 2 -> a * b;
            case 3 -> a / b;
            case 4 -> a % b;
            case 5 -> a & b;
            case 6 -> a | b;
            case 7 -> a ^ b;
            case 8 -> a << b;
            case 9 -> a >> b;
            default -> a >>> b;
        };
    }

    private static long ofLongs(int op, long a, long b) {
        return switch (op) {
            case 0 -> a + b;
            case 1 -> a - b;
            case 2 -> a * b;
            case 3 -> a / b;
            case 4 -> a % b;
            case 5 -> a & b;
            case 6 -> a | b;
            case 7 -> a ^ b;
            case 8 -> a << b;
            case 9 -> a >> b;
            default -> a >>> b;
        };
    }

    private static void floats() {
        for (long a : Samples.floats()) {
            for (long b : Samples.floats()) {
                allFloat(a, b);
            }
        }
        Samples samples = new Samples(2);
        for (int i = 0; i < DRAWN; i++) {
            long a = samples.nextFloat();
            allFloat(a, samples.floatNear(a, 30));
            allFloat(a, samples.nextFloat());
            // A product or quotient near the least and the greatest floats.
            allFloat(a, samples.floatNear((127L + 127 - (a >>> 23 & 255) + (i % 2 == 0 ? -140 : 127)) << 23, 12));
        }
    }

    private static void allFloat(long a, long b) {
        float left = Samples.floatOf(a);
        float right = Samples.floatOf(b);
        check(0, a, b, Samples.FLOAT, Samples.bits(left + right));
        check(1, a, b, Samples.FLOAT, Samples.bits(left - right));
        check(2, a, b, Samples.FLOAT, Samples.bits(left * right));
        check(3, a, b, Samples.FLOAT, Samples.bits(left / right));
        check(4, a, b, Samples.FLOAT, Samples.bits(left % right));
    }

    private static void doubles() {
        for (long a : Samples.doubles()) {
            for (long b : Samples.doubles()) {
                allDouble(a, b);
            }
        }
        Samples samples = new Samples(3);
        for (int i = 0; i < DRAWN; i++) {
            long a = samples.nextDouble();
            allDouble(a, samples.doubleNear(a, 60));
            allDouble(a, samples.nextDouble());
            allDouble(a, samples.doubleNear((1023L + 1023 - (a >>> 52 & 2047) + (i % 2 == 0 ? -1050 : 1023)) << 52, 30));
        }
    }

    private static void allDouble(long a, long b) {
        double left = Samples.doubleOf(a);
        double right = Samples.doubleOf(b);
        check(0, a, b, Samples.DOUBLE, Samples.bits(left + right));
        check(1, a, b, Samples.DOUBLE, Samples.bits(left - right));
        check(2, a, b, Samples.DOUBLE, Samples.bits(left * right));
        check(3, a, b, Samples.DOUBLE, Samples.bits(left / right));
        check(4, a, b, Samples.DOUBLE, Samples.bits(left % right));
    }

    private static void refusals() {
        for (int op : new int[] {-1, 11, 12, Integer.MIN_VALUE, Integer.MAX_VALUE}) {
            for (int type = 3; type <= 6; type++) {
                refused(op, 1, 1, type, IllegalArgumentException.class);
            }
        }
        for (int op = 0; op <= 10; op++) {
            for (int type = 0; type <= 2; type++) {
                refused(op, 1, 1, type, IllegalArgumentException.class);
            }
            for (int type : Samples.NO_TYPES) {
                refused(op, 1, 0, type, IllegalArgumentException.class);
            }
        }
        for (int op = 5; op <= 10; op++) {
            refused(op, 1, 1, Samples.FLOAT, IllegalArgumentException.class);
            refused(op, 1, 1, Samples.DOUBLE, IllegalArgumentException.class);
        }
        for (int op = 3; op <= 4; op++) {
            refused(op, 1, 0, Samples.INT, ArithmeticException.class);
            refused(op, 0, 1L << 32, Samples.INT, ArithmeticException.class);
            refused(op, 1, 0, Samples.LONG, ArithmeticException.class);
            check(op, 1, 1L << 32, Samples.LONG, op == 3 ? 0 : 1);
            // A type that is none is told before the divisor.
            refused(op, 1, 0, Samples.SHORT, IllegalArgumentException.class);
        }
    }

    private static void refused(int op, long a, long b, int type, Class<? extends RuntimeException> want) {
        String call = "binary(" + op + ", " + a + ", " + b + ", " + type + ")";
        X.text(-77, Samples.INT);
        DUE.refused(call, want, () -> X.binary(op, a, b, type));
        DUE.same("the letters after " + call, Samples.taken(X), "-77");
    }
}

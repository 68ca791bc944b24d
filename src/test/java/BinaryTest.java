/** Promise 2: binary, against Java's own operators. */
public final class BinaryTest {
    private static final int DRAWN = 400_000;
    private static final Due DUE = new Due();
    private static final Supply SUPPLY = new Supply();

    public static void main(String[] args) {
        wholes();
        floats();
        doubles();
        DUE.end();
    }

    private static void check(int op, long a, long b, int type, long want) {
        long got = SUPPLY.object(1).binary(op, a, b, type);
        DUE.same(() -> "binary(" + op + ", " + a + ", " + b + ", " + type + ")", got, want);
    }

    private static void wholes() {
        for (long a : Samples.wholes()) {
            for (long b : Samples.wholes()) {
                allWhole(a, b);
            }
        }
        Samples samples = new Samples(1);
        for (int i = 0; i < DRAWN; i++) {
            allWhole(samples.nextWhole(), samples.nextWhole());
        }
    }

    private static void allWhole(long a, long b) {
        for (int op = 0; op <= 10; op++) {
            if ((int) b != 0 || op != 3 && op != 4) {
                check(op, a, b, Samples.INT, ofInts(op, (int) a, (int) b));
            }
            if (b != 0 || op != 3 && op != 4) {
                check(op, a, b, Samples.LONG, ofLongs(op, a, b));
            }
        }
    }

    private static int ofInts(int op, int a, int b) {
        return switch (op) {
            case 0 -> a + b;
            case 1 -> a - b;
            case 2 -> a * b;
            case 3 -> a / b;
            case 4 -> a % b;
            case 5 -> a & b;
            case 6 -> a | b;
            case 7 -> a ^ b;
            case 8 -> a << b;
            case 9 -> a >> b;
            default -> a >>> b;
        };
    }

    private static long ofLongs(int op, long a, long b) {
        return switch (op) {
            case 0 -> a + b;
            case 1 -> a - b;
            case 2 -> a * b;
            case 3 -> a / b;
            case 4 -> a % b;
            case 5 -> a & b;
            case 6 -> a | b;
            case 7 -> a ^ b;
            case 8 -> a << b;
            case 9 -> a >> b;
            default -> a >>> b;
        };
    }

    private static void floats() {
        for (long a : Samples.floats()) {
            for (long b : Samples.floats()) {
                allFloat(a, b);
            }
        }
        Samples samples = new Samples(2);
        for (int i = 0; i < DRAWN; i++) {
            long a = samples.nextFloat();
            allFloat(a, samples.floatNear(a, 30));
            allFloat(a, samples.nextFloat());
            // A product or quotient near the least and the greatest floats.
            allFloat(a, samples.floatNear((127L + 127 - (a >>> 23 & 255) + (i % 2 == 0 ? -140 : 127)) << 23, 12));
        }
    }

    private static void allFloat(long a, long b) {
        float left = Samples.floatOf(a);
        float right = Samples.floatOf(b);
        check(0, a, b, Samples.FLOAT, Samples.bits(left + right));
        check(1, a, b, Samples.FLOAT, Samples.bits(left - right));
        check(2, a, b, Samples.FLOAT, Samples.bits(left * right));
        check(3, a, b, Samples.FLOAT, Samples.bits(left / right));
        check(4, a, b, Samples.FLOAT, Samples.bits(left % right));
    }

    private static void doubles() {
        for (long a : Samples.doubles()) {
            for (long b : Samples.doubles()) {
                allDouble(a, b);
            }
        }
        Samples samples = new Samples(3);
        for (int i = 0; i < DRAWN; i++) {
            long a = samples.nextDouble();
            allDouble(a, samples.doubleNear(a, 60));
            allDouble(a, samples.nextDouble());
            allDouble(a, samples.doubleNear((1023L + 1023 - (a >>> 52 & 2047) + (i % 2 == 0 ? -1050 : 1023)) << 52, 30));
        }
    }

    private static void allDouble(long a, long b) {
        double left = Samples.doubleOf(a);
        double right = Samples.doubleOf(b);
        check(0, a, b, Samples.DOUBLE, Samples.bits(left + right));
        check(1, a, b, Samples.DOUBLE, Samples.bits(left - right));
        check(2, a, b, Samples.DOUBLE, Samples.bits(left * right));
        check(3, a, b, Samples.DOUBLE, Samples.bits(left / right));
        check(4, a, b, Samples.DOUBLE, Samples.bits(left % right));
    }
}

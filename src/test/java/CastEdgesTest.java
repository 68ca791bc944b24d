/** Promise 4, sentence by sentence: cast at its edges, with the answers written out. */
public final class CastEdgesTest {
    private static final int CHAR = Samples.CHAR;
    private static final int BYTE = Samples.BYTE;
    private static final int SHORT = Samples.SHORT;
    private static final int INT = Samples.INT;
    private static final int LONG = Samples.LONG;
    private static final int FLOAT = Samples.FLOAT;
    private static final int DOUBLE = Samples.DOUBLE;
    private static final Due DUE = new Due();

    public static void main(String[] args) {
        allPairs();
        wraps();
        nanToWhole();
        towardsZero();
        belowOne();
        beyondLong();
        beyondInt();
        beyondSmall();
        infinityToWhole();
        longToReal();
        doubleTooLarge();
        doubleTooSmall();
        realToReal();
        otherTypes();
        DUE.end();
    }

    private static Trial trial(String sentence) {
        return new Trial(DUE, sentence);
    }

    private static long d(double v) {
        return Double.doubleToRawLongBits(v);
    }

    private static long f(float v) {
        return Float.floatToRawIntBits(v) & 0xffffffffL;
    }

    private static void allPairs() {
        Trial t = trial("v, of TYPE from, cast to TYPE to (0 to 6 both)");
        long[] hundred = {100, 100, 100, 100, 100, f(100), d(100)};
        for (int from = CHAR; from <= DOUBLE; from++) {
            for (int to = CHAR; to <= DOUBLE; to++) {
                t.cast(hundred[from], from, to, hundred[to]);
            }
        }
        long[] minusOne = {65535, -1, -1, -1, -1, f(-1), d(-1)};
        for (int from = BYTE; from <= DOUBLE; from++) {
            for (int to = CHAR; to <= DOUBLE; to++) {
                t.cast(minusOne[from], from, to, minusOne[to]);
            }
        }
    }

    private static void wraps() {
        trial("a whole number cast to a narrower TYPE wraps")
            .cast(128, INT, BYTE, -128).cast(255, INT, BYTE, -1).cast(256, INT, BYTE, 0).cast(-129, INT, BYTE, 127)
            .cast(32768, INT, SHORT, -32768).cast(65535, CHAR, SHORT, -1).cast(-32769, INT, SHORT, 32767)
            .cast(65536, INT, CHAR, 0).cast(-1, BYTE, CHAR, 65535).cast(-128, BYTE, CHAR, 65408).cast(-32768, SHORT, CHAR, 32768)
            .cast(2147483648L, LONG, INT, -2147483648L).cast(4294967296L, LONG, INT, 0).cast(-2147483649L, LONG, INT, 2147483647)
            .cast(Long.MIN_VALUE, LONG, INT, 0).cast(Long.MAX_VALUE, LONG, BYTE, -1).cast(Long.MAX_VALUE, LONG, CHAR, 65535)
            .cast(65408, CHAR, BYTE, -128).cast(65535, CHAR, INT, 65535).cast(65535, CHAR, LONG, 65535);
    }

    private static void nanToWhole() {
        Trial t = trial("NaN cast to a whole number is 0");
        for (int to = CHAR; to <= LONG; to++) {
            t.cast(0x7fc00000L, FLOAT, to, 0).cast(0x7f800001L, FLOAT, to, 0).cast(0xffffffffL, FLOAT, to, 0);
            t.cast(0x7ff8000000000000L, DOUBLE, to, 0).cast(0xfff0000000000001L, DOUBLE, to, 0).cast(-1, DOUBLE, to, 0);
        }
    }

    private static void towardsZero() {
        Trial t = trial("a float or double cast to a whole number loses what is behind the point");
        for (int to = BYTE; to <= LONG; to++) {
            t.cast(f(1.9f), FLOAT, to, 1).cast(f(-1.9f), FLOAT, to, -1).cast(f(0.99f), FLOAT, to, 0).cast(f(-0.99f), FLOAT, to, 0);
            t.cast(d(1.9), DOUBLE, to, 1).cast(d(-1.9), DOUBLE, to, -1).cast(d(2.5), DOUBLE, to, 2).cast(d(-3.5), DOUBLE, to, -3);
            t.cast(d(0.9999999999999999), DOUBLE, to, 0).cast(d(-0.0), DOUBLE, to, 0).cast(f(-0f), FLOAT, to, 0);
            t.cast(1, DOUBLE, to, 0).cast(0x8000000000000001L, DOUBLE, to, 0).cast(1, FLOAT, to, 0);
        }
        t.cast(d(4503599627370495.5), DOUBLE, LONG, 4503599627370495L).cast(d(-4503599627370495.5), DOUBLE, LONG, -4503599627370495L);
        t.cast(f(-1.9f), FLOAT, CHAR, 65535).cast(f(8388607.5f), FLOAT, INT, 8388607);
    }

    private static void belowOne() {
        Trial t = trial("a float or double below 1 cast to a whole number is 0");
        for (int power = -1; power >= -1074; power = power * 5 / 4 - 1) {
            t.cast(d(Math.scalb(1.75, power)), DOUBLE, LONG, 0).cast(d(Math.scalb(-1.75, power)), DOUBLE, INT, 0);
        }
        for (int power = -1; power >= -149; power = power * 9 / 8 - 1) {
            t.cast(f(Math.scalb(1.75f, power)), FLOAT, LONG, 0).cast(f(Math.scalb(-1.75f, power)), FLOAT, BYTE, 0);
        }
        // Shifts by 64 and 128 bits, which Java's own shift would not make.
        t.cast(d(0x1.8p-12), DOUBLE, LONG, 0).cast(d(0x1.8p-76), DOUBLE, LONG, 0).cast(d(0x1.8p-1022), DOUBLE, LONG, 0);
        t.cast(f(0x1.8p-41f), FLOAT, LONG, 0).cast(f(0x1.8p-105f), FLOAT, LONG, 0).cast(f(0x1.8p-126f), FLOAT, LONG, 0);
    }

    private static void beyondLong() {
        trial("too large or too small for a long: its ends")
            .cast(0x43dfffffffffffffL, DOUBLE, LONG, 9223372036854774784L).cast(d(0x1p63), DOUBLE, LONG, Long.MAX_VALUE)
            .cast(d(-0x1p63), DOUBLE, LONG, Long.MIN_VALUE).cast(0xc3e0000000000001L, DOUBLE, LONG, Long.MIN_VALUE)
            .cast(0xc3dfffffffffffffL, DOUBLE, LONG, -9223372036854774784L)
            .cast(d(1e19), DOUBLE, LONG, Long.MAX_VALUE).cast(d(-1e300), DOUBLE, LONG, Long.MIN_VALUE)
            .cast(0x5effffffL, FLOAT, LONG, 9223371487098961920L).cast(f(0x1p63f), FLOAT, LONG, Long.MAX_VALUE)
            .cast(f(-0x1p63f), FLOAT, LONG, Long.MIN_VALUE).cast(f(Float.MAX_VALUE), FLOAT, LONG, Long.MAX_VALUE)
            .cast(f(-1e20f), FLOAT, LONG, Long.MIN_VALUE);
    }

    private static void beyondInt() {
        trial("too large or too small for an int: its ends")
            .cast(d(2147483647.0), DOUBLE, INT, 2147483647).cast(d(2147483647.9), DOUBLE, INT, 2147483647)
            .cast(d(2147483648.0), DOUBLE, INT, 2147483647).cast(d(-2147483648.0), DOUBLE, INT, -2147483648L)
            .cast(d(-2147483648.9), DOUBLE, INT, -2147483648L).cast(d(-2147483649.0), DOUBLE, INT, -2147483648L)
            .cast(d(4294967296.0), DOUBLE, INT, 2147483647).cast(d(1e300), DOUBLE, INT, 2147483647)
            .cast(d(-1e300), DOUBLE, INT, -2147483648L).cast(d(2147483648.0), DOUBLE, LONG, 2147483648L)
            .cast(f(2147483520f), FLOAT, INT, 2147483520).cast(f(2147483648f), FLOAT, INT, 2147483647)
            .cast(f(-2147483648f), FLOAT, INT, -2147483648L).cast(f(-3e9f), FLOAT, INT, -2147483648L);
    }

    private static void beyondSmall() {
        trial("a float or double cast to byte, short, char goes by way of int")
            .cast(d(200), DOUBLE, BYTE, -56).cast(d(256), DOUBLE, BYTE, 0).cast(d(-129), DOUBLE, BYTE, 127)
            .cast(d(32768), DOUBLE, SHORT, -32768).cast(d(65536.9), DOUBLE, CHAR, 0).cast(d(-1), DOUBLE, CHAR, 65535)
            .cast(d(1e10), DOUBLE, BYTE, -1).cast(d(1e10), DOUBLE, SHORT, -1).cast(d(1e10), DOUBLE, CHAR, 65535)
            .cast(d(-1e10), DOUBLE, BYTE, 0).cast(d(-1e10), DOUBLE, SHORT, 0).cast(d(-1e10), DOUBLE, CHAR, 0)
            .cast(f(200), FLOAT, BYTE, -56).cast(f(65537), FLOAT, CHAR, 1).cast(f(-32769), FLOAT, SHORT, 32767)
            .cast(f(1e10f), FLOAT, BYTE, -1).cast(f(1e10f), FLOAT, CHAR, 65535).cast(f(-1e10f), FLOAT, SHORT, 0)
            .cast(d(1e300), DOUBLE, CHAR, 65535).cast(d(-1e300), DOUBLE, CHAR, 0);
    }

    private static void infinityToWhole() {
        long[] plus = {65535, -1, -1, 2147483647, Long.MAX_VALUE};
        long[] minus = {0, 0, 0, -2147483648L, Long.MIN_VALUE};
        Trial t = trial("Infinity cast to a whole number is as one that is too large");
        for (int to = CHAR; to <= LONG; to++) {
            t.cast(0x7f800000L, FLOAT, to, plus[to]).cast(0x7ff0000000000000L, DOUBLE, to, plus[to]);
            t.cast(0xff800000L, FLOAT, to, minus[to]).cast(0xfff0000000000000L, DOUBLE, to, minus[to]);
        }
    }

    private static void longToReal() {
        trial("a whole number cast to float or double: the nearest, of two the even one")
            .cast(16777216, INT, FLOAT, 0x4b800000L).cast(16777217, INT, FLOAT, 0x4b800000L).cast(16777218, INT, FLOAT, 0x4b800001L)
            .cast(16777219, INT, FLOAT, 0x4b800002L).cast(-16777217, INT, FLOAT, 0xcb800000L).cast(-16777219, INT, FLOAT, 0xcb800002L)
            .cast(2147483647, INT, FLOAT, 0x4f000000L).cast(-2147483648L, INT, FLOAT, 0xcf000000L)
            .cast(2147483647, INT, DOUBLE, 0x41dfffffffc00000L).cast(-2147483648L, INT, DOUBLE, 0xc1e0000000000000L)
            .cast(9007199254740993L, LONG, DOUBLE, 0x4340000000000000L).cast(9007199254740995L, LONG, DOUBLE, 0x4340000000000002L)
            .cast(-9007199254740993L, LONG, DOUBLE, 0xc340000000000000L).cast(9007199254740994L, LONG, DOUBLE, 0x4340000000000001L)
            .cast(Long.MAX_VALUE, LONG, DOUBLE, 0x43e0000000000000L).cast(Long.MIN_VALUE, LONG, DOUBLE, 0xc3e0000000000000L)
            .cast(Long.MAX_VALUE, LONG, FLOAT, 0x5f000000L).cast(Long.MIN_VALUE, LONG, FLOAT, 0xdf000000L)
            .cast(0x7fffffbfffffffffL, LONG, FLOAT, 0x5effffffL).cast(0x7fffffc000000000L, LONG, FLOAT, 0x5f000000L)
            .cast(0x1000001000000000L, LONG, FLOAT, 0x5d800000L).cast(0x1000003000000000L, LONG, FLOAT, 0x5d800002L)
            // By way of double these would be rounded twice, to 0x5d800000 and 0x5d800002.
            .cast(0x1000001000000001L, LONG, FLOAT, 0x5d800001L).cast(0x1000002fffffffffL, LONG, FLOAT, 0x5d800001L)
            .cast(0, LONG, FLOAT, 0).cast(0, LONG, DOUBLE, 0).cast(65535, CHAR, FLOAT, 0x477fff00L).cast(-32768, SHORT, FLOAT, 0xc7000000L);
    }

    private static void doubleTooLarge() {
        trial("a double too large for a float: Infinity from halfway on")
            .cast(0x47efffffe0000000L, DOUBLE, FLOAT, 0x7f7fffffL).cast(0x47efffffefffffffL, DOUBLE, FLOAT, 0x7f7fffffL)
            .cast(0x47effffff0000000L, DOUBLE, FLOAT, 0x7f800000L).cast(0xc7efffffefffffffL, DOUBLE, FLOAT, 0xff7fffffL)
            .cast(0xc7effffff0000000L, DOUBLE, FLOAT, 0xff800000L).cast(0x7fefffffffffffffL, DOUBLE, FLOAT, 0x7f800000L)
            .cast(0x7ff0000000000000L, DOUBLE, FLOAT, 0x7f800000L).cast(0xfff0000000000000L, DOUBLE, FLOAT, 0xff800000L);
    }

    private static void doubleTooSmall() {
        trial("a double too small for a float: 0.0 up to halfway, with its sign")
            .cast(0x36a0000000000000L, DOUBLE, FLOAT, 1).cast(0x3690000000000001L, DOUBLE, FLOAT, 1)
            .cast(0x3690000000000000L, DOUBLE, FLOAT, 0).cast(0x368fffffffffffffL, DOUBLE, FLOAT, 0)
            .cast(0xb690000000000001L, DOUBLE, FLOAT, 0x80000001L).cast(0xb690000000000000L, DOUBLE, FLOAT, 0x80000000L)
            .cast(0x36a8000000000000L, DOUBLE, FLOAT, 2).cast(0x36b4000000000000L, DOUBLE, FLOAT, 2)
            .cast(1, DOUBLE, FLOAT, 0).cast(0x8000000000000001L, DOUBLE, FLOAT, 0x80000000L)
            .cast(0x380fffffffffffffL, DOUBLE, FLOAT, 0x800000L).cast(0x380fffffd0000000L, DOUBLE, FLOAT, 0x7fffffL)
            .cast(0x380fffffe0000000L, DOUBLE, FLOAT, 0x800000L).cast(0x380fffffc0000000L, DOUBLE, FLOAT, 0x7fffffL);
    }

    private static void realToReal() {
        trial("a float or double cast to another: zeros, NaN, the least ones, halfway")
            .cast(0x80000000L, FLOAT, DOUBLE, 1L << 63).cast(1L << 63, DOUBLE, FLOAT, 0x80000000L)
            .cast(0x80000000L, FLOAT, FLOAT, 0x80000000L).cast(1L << 63, DOUBLE, DOUBLE, 1L << 63)
            .cast(1, FLOAT, DOUBLE, 0x36a0000000000000L).cast(0x7fffffL, FLOAT, DOUBLE, 0x380fffffc0000000L)
            .cast(0x800000L, FLOAT, DOUBLE, 0x3810000000000000L).cast(0x7f7fffffL, FLOAT, DOUBLE, 0x47efffffe0000000L)
            .cast(0xff800000L, FLOAT, DOUBLE, 0xfff0000000000000L).cast(1, FLOAT, FLOAT, 1).cast(1, DOUBLE, DOUBLE, 1)
            .cast(0xff800001L, FLOAT, DOUBLE, 0x7ff8000000000000L).cast(0xfff0000000000001L, DOUBLE, FLOAT, 0x7fc00000L)
            .cast(0xffc00001L, FLOAT, FLOAT, 0x7fc00000L).cast(-1, DOUBLE, DOUBLE, 0x7ff8000000000000L)
            .cast(0x3ff0000010000000L, DOUBLE, FLOAT, 0x3f800000L).cast(0x3ff0000010000001L, DOUBLE, FLOAT, 0x3f800001L)
            .cast(0x3ff0000030000000L, DOUBLE, FLOAT, 0x3f800002L).cast(0x3ff000002fffffffL, DOUBLE, FLOAT, 0x3f800001L)
            .cast(0x3fffffffffffffffL, DOUBLE, FLOAT, 0x40000000L);
    }

    private static void otherTypes() {
        Trial t = trial("IllegalArgumentException for others");
        for (int none : Samples.NO_TYPES) {
            for (int type = CHAR; type <= DOUBLE; type++) {
                t.cast(1, none, type, Trial.ILLEGAL).cast(1, type, none, Trial.ILLEGAL);
            }
            t.cast(1, none, none, Trial.ILLEGAL);
        }
        t.cast(-1, 7, -1, Trial.ILLEGAL).cast(0, CHAR, CHAR, 0).cast(0, DOUBLE, DOUBLE, 0);
    }
}

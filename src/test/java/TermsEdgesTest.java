/** "What it is" and "Terms", sentence by sentence, with the answers written out. */
public final class TermsEdgesTest {
    private static final int CHAR = Samples.CHAR;
    private static final int BYTE = Samples.BYTE;
    private static final int SHORT = Samples.SHORT;
    private static final int INT = Samples.INT;
    private static final int LONG = Samples.LONG;
    private static final int FLOAT = Samples.FLOAT;
    private static final int DOUBLE = Samples.DOUBLE;
    private static final long FLOAT_NAN = 0x7fc00000L;
    private static final long NAN = 0x7ff8000000000000L;
    private static final long INFINITY = 0x7ff0000000000000L;
    private static final long MINUS_ZERO = 1L << 63;
    private static final long ONE = 0x3ff0000000000000L;
    private static final Due DUE = new Due();

    public static void main(String[] args) {
        wrap();
        floatsToTheNearest();
        doublesToTheNearest();
        tooLarge();
        tooSmall();
        signsOfZero();
        infinities();
        realRemainders();
        lastPromisedCall();
        lowBitsOfSmall();
        lowBitsOfInt();
        lowBitsOfFloat();
        allBits();
        upperBitsOfFloatAnswers();
        nansCountAlike();
        answeredNan();
        firstNamedException();
        lettersStay();
        DUE.end();
    }

    private static Trial trial(String sentence) {
        return new Trial(DUE, sentence);
    }

    private static void wrap() {
        trial("whole ones that wrap")
            .binary(0, 2147483647, 1, INT, -2147483648L).binary(1, -2147483648L, 1, INT, 2147483647)
            .binary(0, -2147483648L, -2147483648L, INT, 0).binary(2, 65536, 65536, INT, 0).binary(2, 2147483647, 2, INT, -2)
            .binary(2, -2147483648L, -1, INT, -2147483648L).binary(2, 2147483647, 2147483647, INT, 1)
            .binary(0, 2147483647, 1, LONG, 2147483648L).binary(0, Long.MAX_VALUE, 1, LONG, Long.MIN_VALUE)
            .binary(1, Long.MIN_VALUE, 1, LONG, Long.MAX_VALUE).binary(1, 0, Long.MIN_VALUE, LONG, Long.MIN_VALUE)
            .binary(2, 4294967296L, 4294967296L, LONG, 0).binary(2, Long.MIN_VALUE, -1, LONG, Long.MIN_VALUE)
            .binary(2, Long.MAX_VALUE, Long.MAX_VALUE, LONG, 1).minus(-2147483648L, INT, -2147483648L)
            .minus(Long.MIN_VALUE, LONG, Long.MIN_VALUE).cast(2147483648L, LONG, INT, -2147483648L);
    }

    private static void floatsToTheNearest() {
        trial("rounded to the nearest, of two the even one: floats")
            // 1 + 2^-24 and (1 + 2^-23) + 2^-24 lie halfway, their neighbours do not.
            .binary(0, 0x3f800000L, 0x33800000L, FLOAT, 0x3f800000L).binary(0, 0x3f800001L, 0x33800000L, FLOAT, 0x3f800002L)
            .binary(0, 0x3f800000L, 0x33800001L, FLOAT, 0x3f800001L).binary(0, 0x3f800001L, 0x337fffffL, FLOAT, 0x3f800001L)
            .binary(0, 0xbf800000L, 0xb3800000L, FLOAT, 0xbf800000L).binary(0, 0xbf800001L, 0xb3800000L, FLOAT, 0xbf800002L)
            // Below 1 numbers lie half as far apart: 1 - 2^-25 is halfway there.
            .binary(1, 0x3f800000L, 0x33000000L, FLOAT, 0x3f800000L).binary(1, 0x3f800000L, 0x33000001L, FLOAT, 0x3f7fffffL)
            .binary(1, 0x3f800000L, 1, FLOAT, 0x3f800000L).binary(0, 0x3f800000L, 1, FLOAT, 0x3f800000L)
            // 4097 * 4097 and 4099 * 4097 have one bit more than a float.
            .binary(2, 0x45800800L, 0x45800800L, FLOAT, 0x4b801000L).binary(2, 0x45801800L, 0x45800800L, FLOAT, 0x4b802002L)
            .binary(3, 0x3f800000L, 0x40400000L, FLOAT, 0x3eaaaaabL).binary(3, 0x40000000L, 0x40400000L, FLOAT, 0x3f2aaaabL)
            .binary(3, 0x3f800000L, 0x41200000L, FLOAT, 0x3dcccccdL);
    }

    private static void doublesToTheNearest() {
        trial("rounded to the nearest, of two the even one: doubles")
            .binary(0, ONE, 0x3ca0000000000000L, DOUBLE, ONE).binary(0, ONE + 1, 0x3ca0000000000000L, DOUBLE, ONE + 2)
            .binary(0, ONE, 0x3ca0000000000001L, DOUBLE, ONE + 1).binary(0, ONE + 1, 0x3c9fffffffffffffL, DOUBLE, ONE + 1)
            .binary(1, ONE, 0x3c90000000000000L, DOUBLE, ONE).binary(1, ONE, 0x3c90000000000001L, DOUBLE, ONE - 1)
            .binary(1, ONE, 1, DOUBLE, ONE).binary(0, ONE, 1, DOUBLE, ONE)
            // 0.1 + 0.2 is not 0.3; 1/3, 2/3 and 1/10 go up or down.
            .binary(0, 0x3fb999999999999aL, 0x3fc999999999999aL, DOUBLE, 0x3fd3333333333334L)
            .binary(3, ONE, 0x4008000000000000L, DOUBLE, 0x3fd5555555555555L)
            .binary(3, 0x4000000000000000L, 0x4008000000000000L, DOUBLE, 0x3fe5555555555555L)
            .binary(3, ONE, 0x4024000000000000L, DOUBLE, 0x3fb999999999999aL)
            // (2^27 + 1) * (2^26 + 1) = 2^53 + 2^27 + 2^26 + 1 and (2^27 + 3) * (2^26 + 1) lie halfway.
            .binary(2, 0x41a0000002000000L, 0x4190000004000000L, DOUBLE, 0x4340000006000000L)
            .binary(2, 0x41a0000006000000L, 0x4190000004000000L, DOUBLE, 0x434000000a000002L)
            // All bits are 1: (1 - 2^-53)^2 and (2 - 2^-52)^2, above their neighbours by next to nothing.
            .binary(2, ONE - 1, ONE - 1, DOUBLE, ONE - 2).binary(2, 0x3fffffffffffffffL, 0x3fffffffffffffffL, DOUBLE, 0x400ffffffffffffeL)
            .binary(3, ONE - 1, 0x3fffffffffffffffL, DOUBLE, 0x3fe0000000000000L).binary(3, ONE, ONE - 1, DOUBLE, ONE + 1);
    }

    private static void tooLarge() {
        trial("by IEEE 754: what is too large is Infinity, from halfway to the next power of two on")
            .binary(0, 0x7f7fffffL, 0x73000000L, FLOAT, 0x7f800000L).binary(0, 0x7f7fffffL, 0x72ffffffL, FLOAT, 0x7f7fffffL)
            .binary(1, 0xff7fffffL, 0x73000000L, FLOAT, 0xff800000L).binary(2, 0x7f7fffffL, 0x40000000L, FLOAT, 0x7f800000L)
            .binary(2, 0x7f7fffffL, 0xc0000000L, FLOAT, 0xff800000L).binary(3, 0x7f7fffffL, 0x3f000000L, FLOAT, 0x7f800000L)
            .binary(2, 0x7f7fffffL, 0x3f800000L, FLOAT, 0x7f7fffffL).binary(3, 0x7f7fffffL, 1, FLOAT, 0x7f800000L)
            .binary(0, 0x7fefffffffffffffL, 0x7c90000000000000L, DOUBLE, INFINITY)
            .binary(0, 0x7fefffffffffffffL, 0x7c8fffffffffffffL, DOUBLE, 0x7fefffffffffffffL)
            .binary(1, 0xffefffffffffffffL, 0x7c90000000000000L, DOUBLE, 0xfff0000000000000L)
            .binary(2, 0x7fefffffffffffffL, 0xc000000000000000L, DOUBLE, 0xfff0000000000000L)
            .binary(3, 0x7fefffffffffffffL, 0x3fe0000000000000L, DOUBLE, INFINITY)
            .binary(3, 0x7fefffffffffffffL, 1, DOUBLE, INFINITY);
    }

    private static void tooSmall() {
        trial("by IEEE 754: what is too small has fewer bits, and at last is 0.0 with its sign")
            .binary(3, 0x800000L, 0x40000000L, FLOAT, 0x400000L).binary(2, 1, 0x3f000000L, FLOAT, 0)
            .binary(2, 1, 0x3f000001L, FLOAT, 1).binary(2, 3, 0x3f000000L, FLOAT, 2).binary(2, 0x80000001L, 0x3f000000L, FLOAT, 0x80000000L)
            .binary(2, 1, 1, FLOAT, 0).binary(2, 1, 0x80000001L, FLOAT, 0x80000000L).binary(3, 1, 0x7f7fffffL, FLOAT, 0)
            .binary(1, 0x800001L, 0x800000L, FLOAT, 1).binary(0, 0x7fffffL, 1, FLOAT, 0x800000L)
            .binary(2, 0x800000L, 0x3f7fffffL, FLOAT, 0x800000L).binary(2, 0x800000L, 0x3f7ffffeL, FLOAT, 0x7fffffL)
            .binary(3, 0x10000000000000L, 0x4000000000000000L, DOUBLE, 0x8000000000000L)
            .binary(2, 1, 0x3fe0000000000000L, DOUBLE, 0).binary(2, 1, 0x3fe0000000000001L, DOUBLE, 1)
            .binary(2, 3, 0x3fe0000000000000L, DOUBLE, 2).binary(2, 0x8000000000000001L, 0x3fe0000000000000L, DOUBLE, MINUS_ZERO)
            .binary(2, 1, 1, DOUBLE, 0).binary(3, 1, 0xffefffffffffffffL, DOUBLE, MINUS_ZERO)
            .binary(1, 0x10000000000001L, 0x10000000000000L, DOUBLE, 1).binary(0, 0xfffffffffffffL, 1, DOUBLE, 0x10000000000000L)
            .binary(2, 0x10000000000000L, 0x3fefffffffffffffL, DOUBLE, 0x10000000000000L)
            .binary(2, 0x10000000000000L, 0x3feffffffffffffeL, DOUBLE, 0xfffffffffffffL);
    }

    private static void signsOfZero() {
        trial("by IEEE 754: the signs of 0.0")
            .binary(0, 0, MINUS_ZERO, DOUBLE, 0).binary(0, MINUS_ZERO, MINUS_ZERO, DOUBLE, MINUS_ZERO)
            .binary(1, 0, 0, DOUBLE, 0).binary(1, MINUS_ZERO, 0, DOUBLE, MINUS_ZERO).binary(1, MINUS_ZERO, MINUS_ZERO, DOUBLE, 0)
            .binary(1, ONE, ONE, DOUBLE, 0).binary(0, ONE | MINUS_ZERO, ONE, DOUBLE, 0)
            .binary(2, 0, ONE | MINUS_ZERO, DOUBLE, MINUS_ZERO).binary(2, MINUS_ZERO, MINUS_ZERO, DOUBLE, 0)
            .binary(3, MINUS_ZERO, ONE, DOUBLE, MINUS_ZERO).binary(3, ONE, INFINITY | MINUS_ZERO, DOUBLE, MINUS_ZERO)
            .binary(0, 0, 0x80000000L, FLOAT, 0).binary(0, 0x80000000L, 0x80000000L, FLOAT, 0x80000000L)
            .binary(1, 0x80000000L, 0, FLOAT, 0x80000000L).binary(1, 0x3f800000L, 0x3f800000L, FLOAT, 0)
            .binary(2, 0, 0xbf800000L, FLOAT, 0x80000000L).binary(3, 0x80000000L, 0xbf800000L, FLOAT, 0);
    }

    private static void infinities() {
        trial("by IEEE 754: Infinity, and what is no number")
            .binary(0, INFINITY, ONE, DOUBLE, INFINITY).binary(1, ONE, INFINITY, DOUBLE, INFINITY | MINUS_ZERO)
            .binary(0, INFINITY, INFINITY, DOUBLE, INFINITY).binary(1, INFINITY, INFINITY, DOUBLE, NAN)
            .binary(0, INFINITY | MINUS_ZERO, INFINITY, DOUBLE, NAN).binary(2, INFINITY, 0, DOUBLE, NAN)
            .binary(2, MINUS_ZERO, INFINITY, DOUBLE, NAN).binary(2, INFINITY, ONE | MINUS_ZERO, DOUBLE, INFINITY | MINUS_ZERO)
            .binary(3, INFINITY, INFINITY, DOUBLE, NAN).binary(3, INFINITY, 0, DOUBLE, INFINITY).binary(3, ONE, INFINITY, DOUBLE, 0)
            .binary(3, 0, 0, DOUBLE, NAN)
            .binary(0, 0x7f800000L, 0x3f800000L, FLOAT, 0x7f800000L).binary(1, 0x7f800000L, 0x7f800000L, FLOAT, FLOAT_NAN)
            .binary(2, 0x7f800000L, 0, FLOAT, FLOAT_NAN).binary(3, 0x7f800000L, 0xff800000L, FLOAT, FLOAT_NAN)
            .binary(3, 0x3f800000L, 0x7f800000L, FLOAT, 0).binary(2, 0xff800000L, 0xff800000L, FLOAT, 0x7f800000L);
    }

    private static void realRemainders() {
        trial("4 % of floats and doubles: exact, with the sign of a")
            .binary(4, Samples.bits(5.5), Samples.bits(-2.0), DOUBLE, Samples.bits(1.5))
            .binary(4, Samples.bits(-5.5), Samples.bits(2.0), DOUBLE, Samples.bits(-1.5))
            .binary(4, Samples.bits(-6.0), Samples.bits(2.0), DOUBLE, MINUS_ZERO).binary(4, MINUS_ZERO, ONE, DOUBLE, MINUS_ZERO)
            .binary(4, ONE, INFINITY, DOUBLE, ONE).binary(4, ONE, INFINITY | MINUS_ZERO, DOUBLE, ONE)
            .binary(4, INFINITY, ONE, DOUBLE, NAN).binary(4, ONE, 0, DOUBLE, NAN).binary(4, 0, 0, DOUBLE, NAN)
            .binary(4, 0x7fefffffffffffffL, 1, DOUBLE, 0).binary(4, 1, 2, DOUBLE, 1).binary(4, 7, 3, DOUBLE, 1)
            // 2^1023 % 3 is 2, and % 7 it is 1.
            .binary(4, 0x7fe0000000000000L, Samples.bits(3.0), DOUBLE, Samples.bits(2.0))
            .binary(4, 0x7fe0000000000000L, Samples.bits(7.0), DOUBLE, Samples.bits(1.0))
            .binary(4, 0xc0b00000L, 0x40000000L, FLOAT, 0xbfc00000L).binary(4, 0x7f000000L, 0x40400000L, FLOAT, 0x40000000L)
            .binary(4, 0x3f800000L, 0x7f800000L, FLOAT, 0x3f800000L).binary(4, 0x3f800000L, 0, FLOAT, FLOAT_NAN);
    }

    private static void lastPromisedCall() {
        Trial operators = trial("an object is used for at most 512 calls: operators, casts and comparisons");
        for (int i = 0; i < Supply.MOST_CALLS / 4; i++) {
            operators.binary(0, i, 1, LONG, i + 1L).minus(i, INT, -i).cast(65535, INT, SHORT, -1).compare(0, MINUS_ZERO, DOUBLE, 0);
        }
        Trial refusals = trial("an object is used for at most 512 calls: refused ones too");
        refusals.text(42, INT, 2);
        while (refusals.calls() < Supply.MOST_CALLS - 1) {
            refusals.binary(3, 1, 0, LONG, Trial.ARITHMETIC).text(0, 7, Trial.ILLEGAL);
        }
        refusals.take("42");
        Trial texts = trial("an object is used for at most 512 calls: texts");
        for (int i = 0; i < Supply.MOST_CALLS; i++) {
            texts.text(0x8010000000000000L + i % 2, DOUBLE, i % 2 == 0 ? 24 : 23);
        }
        Trial takes = trial("an object is used for at most 512 calls: texts and takes");
        for (int i = 0; i < Supply.MOST_CALLS / 4; i++) {
            takes.text(0x8010000000000000L, DOUBLE, 24).take("-2.22507").take("38585072").take("014E-308");
        }
    }

    private static void lowBitsOfSmall() {
        Trial t = trial("of another long the low 16, 8, 16 bits count (of char without a sign, of byte, short with it)");
        t.cast(65536, CHAR, LONG, 0).cast(0x18000, CHAR, LONG, 32768).cast(-1, CHAR, LONG, 65535).cast(-32768, CHAR, CHAR, 32768);
        t.cast(Long.MIN_VALUE, CHAR, LONG, 0).cast(0x12345678ffffL, CHAR, INT, 65535).cast(0x1ffff, CHAR, DOUBLE, Samples.bits(65535.0));
        t.cast(256, BYTE, LONG, 0).cast(128, BYTE, LONG, -128).cast(255, BYTE, BYTE, -1).cast(-129, BYTE, LONG, 127);
        t.cast(0x12ff, BYTE, CHAR, 65535).cast(0x1180, BYTE, FLOAT, Samples.bits(-128f));
        t.cast(65536, SHORT, LONG, 0).cast(32768, SHORT, LONG, -32768).cast(65535, SHORT, SHORT, -1).cast(-32769, SHORT, LONG, 32767);
        t.cast(0x18000, SHORT, CHAR, 32768).cast(0x1ffff, SHORT, DOUBLE, Samples.bits(-1.0));
        t.shows(128, BYTE, "-128").shows(0x17f, BYTE, "127").shows(-129, BYTE, "127").shows(256, BYTE, "0");
        t.shows(32768, SHORT, "-32768").shows(0x17fff, SHORT, "32767").shows(-32769, SHORT, "32767").shows(65536, SHORT, "0");
    }

    private static void lowBitsOfInt() {
        trial("of another long the low 32 bits count, of int with the sign")
            .binary(0, 0x500000001L, 0x700000002L, INT, 3).binary(0, 0x80000000L, 0, INT, -2147483648L)
            .binary(3, 0xfffffffaL, 3, INT, -2).binary(3, 6, 0xfffffffdL, INT, -2).binary(4, 0x9ffffffffL, 0x100000002L, INT, -1)
            .binary(9, 0xfffffff0L, 2, INT, -4).binary(10, 0x1f0000000L, 28, INT, 15).binary(5, 0xffffffffL, 0x1ffffffffL, INT, -1)
            .binary(7, 0x80000000L, 0, INT, -2147483648L).binary(2, 0x100000003L, 0x200000005L, INT, 15)
            .minus(0x100000005L, INT, -5).minus(0xffffffffL, INT, 1).minus(Long.MIN_VALUE, INT, 0)
            .cast(0xffffffffL, INT, LONG, -1).cast(0x180000000L, INT, DOUBLE, Samples.bits(-2147483648.0)).cast(1L << 32, INT, FLOAT, 0)
            .compare(0xffffffffL, 0, INT, -1).compare(0x100000000L, 0, INT, 0).compare(1, 0x80000000L, INT, 1)
            .shows(0x180000000L, INT, "-2147483648").shows(0xffffffffL, INT, "-1").shows(1L << 32, INT, "0");
    }

    private static void lowBitsOfFloat() {
        trial("of a float the low 32 bits")
            .binary(0, 0x123456783f800000L, 0xffffffff3f800000L, FLOAT, 0x40000000L)
            .binary(2, 0xffffffffbf800000L, 0x7ff8000040000000L, FLOAT, 0xc0000000L)
            .binary(3, 0x8000000040000000L, 0x140000000L, FLOAT, 0x3f800000L).binary(4, 0x8000000040a00000L, 0x140400000L, FLOAT, 0x40000000L)
            .minus(0x7ff800003f800000L, FLOAT, 0xbf800000L).minus(0x100000000L, FLOAT, 0x80000000L)
            .cast(0xffffffff3f800000L, FLOAT, DOUBLE, ONE).cast(0x7ff8000040400000L, FLOAT, LONG, 3).cast(-0x40800000L, FLOAT, INT, -1)
            .cast(0x9999999980000000L, FLOAT, FLOAT, 0x80000000L)
            .compare(0x100000000L, 0xffffffff00000000L, FLOAT, 0).compare(0x8000000040000000L, 0x3f800000L, FLOAT, 1)
            .compare(0x7ff8000000000000L, 0, FLOAT, 0).compare(0x7fc00000L | 1L << 32, 0, FLOAT, 2)
            .shows(0x500000000L, FLOAT, "0.0").shows(0x80000000_3f800000L, FLOAT, "1.0").shows(0xffffffff_80000000L, FLOAT, "-0.0");
    }

    private static void allBits() {
        trial("of a double all 64, and a long is itself")
            .binary(0, 0x3ff0000000000001L, 0, DOUBLE, 0x3ff0000000000001L).minus(0x80000000L, DOUBLE, 0x8000000080000000L)
            .cast(0x41e0000000000000L, DOUBLE, LONG, 2147483648L).compare(0x3ff0000000000000L, 0x3ff0000000000001L, DOUBLE, -1)
            .compare(0x4000000000000001L, 0x3ff0000000000001L, DOUBLE, 1).compare(0x7fc00000L, 0x7fc00001L, DOUBLE, -1)
            .binary(0, 0x100000000L, 1, LONG, 4294967297L).cast(0x123456789abcdef0L, LONG, LONG, 0x123456789abcdef0L)
            .shows(4294967297L, LONG, "4294967297").shows(Long.MAX_VALUE, LONG, "9223372036854775807");
    }

    private static void upperBitsOfFloatAnswers() {
        trial("of a float its 32 bits (the upper 32 are 0)")
            .binary(2, 0xbf800000L, 0x3f800000L, FLOAT, 0xbf800000L).binary(0, 0x80000000L, 0x80000000L, FLOAT, 0x80000000L)
            .binary(1, 0, 0x3f800000L, FLOAT, 0xbf800000L).binary(3, 0xff800000L, 0x3f800000L, FLOAT, 0xff800000L)
            .binary(4, 0xffffffffc0a00000L, 0x40400000L, FLOAT, 0xc0000000L).binary(4, -0x40800000L, 0x7f800000L, FLOAT, 0xbf800000L)
            .minus(0x123456783f800000L, FLOAT, 0xbf800000L).minus(-0x40800000L, FLOAT, 0x3f800000L)
            .cast(-1, INT, FLOAT, 0xbf800000L).cast(Long.MIN_VALUE, LONG, FLOAT, 0xdf000000L).cast(MINUS_ZERO, DOUBLE, FLOAT, 0x80000000L)
            .cast(-0x40800000L, FLOAT, FLOAT, 0xbf800000L).cast(0xffffffff3f800000L, FLOAT, FLOAT, 0x3f800000L);
    }

    private static void nansCountAlike() {
        Trial t = trial("all NaNs count alike");
        for (long nan : new long[] {0x7fc00000L, 0x7f800001L, 0x7fbfffffL, 0x7fffffffL, 0xff800001L, 0xffc00000L, 0xffffffffL}) {
            t.shows(nan, FLOAT, "NaN").compare(nan, 0x7fc00000L, FLOAT, 2).cast(nan, FLOAT, INT, 0).cast(nan, FLOAT, DOUBLE, NAN);
            t.minus(nan, FLOAT, FLOAT_NAN).binary(0, nan, 0x3f800000L, FLOAT, FLOAT_NAN).binary(4, 0x3f800000L, nan, FLOAT, FLOAT_NAN);
        }
        for (long nan : new long[] {NAN, INFINITY + 1, 0x7ff00000ffffffffL, 0x7ff7ffffffffffffL, Long.MAX_VALUE, 0xfff0000000000001L,
            0xfff8000000000000L, -1}) {
            t.shows(nan, DOUBLE, "NaN").compare(nan, NAN, DOUBLE, 2).cast(nan, DOUBLE, LONG, 0).cast(nan, DOUBLE, FLOAT, FLOAT_NAN);
            t.minus(nan, DOUBLE, NAN).binary(0, nan, ONE, DOUBLE, NAN).binary(4, ONE, nan, DOUBLE, NAN);
        }
    }

    private static void answeredNan() {
        Trial t = trial("a NaN that is answered is 0x7fc00000, of double 0x7ff8000000000000");
        for (int op = 0; op <= 4; op++) {
            t.binary(op, 0xffffffffL, 0x3f800000L, FLOAT, FLOAT_NAN).binary(op, 0x3f800000L, 0x7f800001L, FLOAT, FLOAT_NAN);
            t.binary(op, 0xff800001L, 0xffc12345L, FLOAT, FLOAT_NAN).binary(op, 0x7f800001L, 0, FLOAT, FLOAT_NAN);
            t.binary(op, -1, ONE, DOUBLE, NAN).binary(op, ONE, INFINITY + 1, DOUBLE, NAN);
            t.binary(op, 0xfff0000000000001L, 0xfff8123456789abcL, DOUBLE, NAN).binary(op, INFINITY, -1, DOUBLE, NAN);
        }
        t.binary(1, 0x7f800000L, 0x7f800000L, FLOAT, FLOAT_NAN).binary(3, 0x80000000L, 0, FLOAT, FLOAT_NAN);
        t.binary(2, 0xff800000L, 0, FLOAT, FLOAT_NAN).binary(4, 0xff800000L, 0x3f800000L, FLOAT, FLOAT_NAN);
        t.binary(3, MINUS_ZERO, 0, DOUBLE, NAN).binary(4, ONE | MINUS_ZERO, MINUS_ZERO, DOUBLE, NAN);
        t.minus(0x7fc00000L, FLOAT, FLOAT_NAN).minus(0xff800001L, FLOAT, FLOAT_NAN).minus(NAN, DOUBLE, NAN).minus(-1, DOUBLE, NAN);
        t.cast(0xffffffffL, FLOAT, FLOAT, FLOAT_NAN).cast(0x7f800001L, FLOAT, DOUBLE, NAN);
        t.cast(-1, DOUBLE, DOUBLE, NAN).cast(0xfff0000000000001L, DOUBLE, FLOAT, FLOAT_NAN);
    }

    private static void firstNamedException() {
        trial("of several exceptions the one that a call names first is thrown")
            .binary(3, 1, 0, SHORT, Trial.ILLEGAL).binary(4, 1, 0, CHAR, Trial.ILLEGAL).binary(3, 1, 0, BYTE, Trial.ILLEGAL)
            .binary(3, 1, 0, 7, Trial.ILLEGAL).binary(4, 1, 0, -1, Trial.ILLEGAL).binary(3, 1, 0, Integer.MIN_VALUE, Trial.ILLEGAL)
            .binary(11, 1, 0, INT, Trial.ILLEGAL).binary(-1, 1, 0, LONG, Trial.ILLEGAL)
            .binary(3, 1, 0, INT, Trial.ARITHMETIC).binary(4, 1, 0, LONG, Trial.ARITHMETIC);
    }

    private static void lettersStay() {
        trial("then nothing changes, and the letters stay: the whole text")
            .text(-1234567890, INT, 11).binary(11, 1, 1, INT, Trial.ILLEGAL).binary(3, 1, 0, INT, Trial.ARITHMETIC)
            .binary(4, 1, 0, LONG, Trial.ARITHMETIC).binary(5, 1, 1, DOUBLE, Trial.ILLEGAL).minus(1, SHORT, Trial.ILLEGAL)
            .cast(1, 7, 0, Trial.ILLEGAL).cast(1, 0, -1, Trial.ILLEGAL).compare(1, 1, CHAR, Trial.ILLEGAL)
            .text(5, CHAR, Trial.ILLEGAL).text(5, 7, Trial.ILLEGAL).take("-1234567").take("890").take(0);
        trial("then nothing changes, and the letters stay: between two takes")
            .text(Long.MIN_VALUE, LONG, 20).take("-9223372").text(5, CHAR, Trial.ILLEGAL).binary(3, 1, 0, INT, Trial.ARITHMETIC)
            .take("03685477").text(5, -1, Trial.ILLEGAL).cast(1, 0, 7, Trial.ILLEGAL).minus(1, 7, Trial.ILLEGAL)
            .compare(1, 1, 7, Trial.ILLEGAL).take("5808").text(5, 7, Trial.ILLEGAL).take(0);
    }
}

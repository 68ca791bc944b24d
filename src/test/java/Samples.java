import java.util.TreeSet;

/** Numbers worth trying, and as many others as wanted: the same ones in every run. */
final class Samples {
    static final int CHAR = 0;
    static final int BYTE = 1;
    static final int SHORT = 2;
    static final int INT = 3;
    static final int LONG = 4;
    static final int FLOAT = 5;
    static final int DOUBLE = 6;
    static final int MOST_TAKES = 4;
    static final int[] NO_TYPES = {-1, 7, 8, 100, Integer.MIN_VALUE, Integer.MAX_VALUE};

    private long state;

    Samples(long seed) {
        state = seed;
    }

    /** Any 64 bits (SplitMix64). */
    long next() {
        state += 0x9e3779b97f4a7c15L;
        long z = state;
        z = (z ^ (z >>> 30)) * 0xbf58476d1ce4e5b9L;
        z = (z ^ (z >>> 27)) * 0x94d049bb133111ebL;
        return z ^ (z >>> 31);
    }

    int below(int bound) {
        return (int) Long.remainderUnsigned(next(), bound);
    }

    /** A whole number of any length. */
    long nextWhole() {
        return next() >> below(64);
    }

    /** Any float: now and then with few bits, so that results come out halfway between two. */
    long nextFloat() {
        long bits = next() & 0xffffffffL;
        return below(3) == 0 ? bits & -1L << below(24) : bits;
    }

    long nextDouble() {
        long bits = next();
        return below(3) == 0 ? bits & -1L << below(53) : bits;
    }

    /** A float whose exponent is at most the distance away from that of v. */
    long floatNear(long v, int distance) {
        int exponent = (int) (v >>> 23 & 255) + below(2 * distance + 1) - distance;
        return nextFloat() & ~(255L << 23) | (long) Math.max(0, Math.min(254, exponent)) << 23;
    }

    long doubleNear(long v, int distance) {
        int exponent = (int) (v >>> 52 & 2047) + below(2 * distance + 1) - distance;
        return nextDouble() & ~(2047L << 52) | (long) Math.max(0, Math.min(2046, exponent)) << 52;
    }

    static long[] wholes() {
        TreeSet<Long> all = new TreeSet<>();
        for (int bit = 0; bit < 64; bit++) {
            for (long near = -2; near <= 2; near++) {
                all.add((1L << bit) + near);
                all.add(-(1L << bit) + near);
            }
        }
        for (long v : new long[] {10, 99, 100, 12345, -12345, 16777217, 33554433, 9007199254740993L, 999999999999999999L,
            1000000000000000000L, 0x123456789abcdef0L, 0x7fffffbfffffffffL, 0x7fffffc000000000L, 0x7fffffc000000001L}) {
            all.add(v);
        }
        return unboxed(all);
    }

    static long[] floats() {
        TreeSet<Long> all = new TreeSet<>();
        for (long v : new long[] {0, 1, 2, 3, 0x7ffffe, 0x7fffff, 0x800000, 0x800001, 0xffffff, 0x1000000, 0x7f7fffff,
            0x7f7ffffe, 0x7f800000, 0x7f800001, 0x7fc00000, 0x7fffffff, 0x3effffff}) {
            all.add(v);
            all.add(v | 0x80000000L);
        }
        for (float v : new float[] {1, 2, 3, 0.5f, 0.1f, 0.3f, 7, 10, 255, 256, 65535, 65536, 16777215, 16777216, 16777218,
            2147483520f, 2147483648f, 9.223371E18f, 9.223372E18f, 1e10f, 1e-10f, 1e38f, 1e-38f, 1.5f, 2.5f, 3.25f}) {
            all.add(Float.floatToRawIntBits(v) & 0xffffffffL);
            all.add(Float.floatToRawIntBits(-v) & 0xffffffffL);
        }
        return unboxed(all);
    }

    static long[] doubles() {
        TreeSet<Long> all = new TreeSet<>();
        for (long v : new long[] {0, 1, 2, 3, 0xffffffffffffeL, 0xfffffffffffffL, 0x10000000000000L, 0x10000000000001L,
            0x1fffffffffffffL, 0x20000000000000L, 0x7feffffffffffffeL, 0x7fefffffffffffffL, 0x7ff0000000000000L,
            0x7ff0000000000001L, 0x7ff8000000000000L, 0x7fffffffffffffffL, 0x36a0000000000000L, 0x36a0000000000001L,
            0x3690000000000000L, 0x3690000000000001L, 0x368fffffffffffffL, 0x380fffffe0000000L, 0x380fffffffffffffL,
            0x47efffffe0000000L, 0x47efffffefffffffL, 0x47effffff0000000L, 0x3ff0000010000000L, 0x3ff0000010000001L,
            0x3ff0000030000000L}) {
            all.add(v);
            all.add(v | 1L << 63);
        }
        for (double v : new double[] {1, 2, 3, 0.5, 0.1, 0.2, 0.3, 0.999, 7, 10, 127, 128, 255.5, 256, 32767, 32768, 65535,
            65536, 2147483647, 2147483647.5, 2147483648.0, 2147483649.0, 9007199254740991.0, 9007199254740992.0, 9.223372036854775E18,
            9.223372036854775807E18, 1e19, 1e300, 1e-300, 1e154, 1e-162, 1.5, 2.5, 3.25}) {
            all.add(Double.doubleToRawLongBits(v));
            all.add(Double.doubleToRawLongBits(-v));
        }
        return unboxed(all);
    }

    private static long[] unboxed(TreeSet<Long> all) {
        return all.stream().mapToLong(Long::longValue).toArray();
    }

    static float floatOf(long v) {
        return Float.intBitsToFloat((int) v);
    }

    static double doubleOf(long v) {
        return Double.longBitsToDouble(v);
    }

    // The library's own functions that make all NaNs the one that the document answers.
    static long bits(float v) {
        return Float.floatToIntBits(v) & 0xffffffffL;
    }

    static long bits(double v) {
        return Double.doubleToLongBits(v);
    }

    /** All that is left of the text; it takes at most MOST_TAKES calls. */
    static String taken(PrimitiveBits x) {
        StringBuilder all = new StringBuilder();
        for (int i = 0; i < MOST_TAKES; i++) {
            long part = x.take();
            for (int shift = 56; shift >= 0; shift -= 8) {
                if (part >>> shift != 0) {
                    all.append((char) (part >>> shift & 255));
                }
            }
        }
        return all.toString();
    }
}

/** Promise 3, sentence by sentence: minus at its edges, with the answers written out. */
public final class MinusEdgesTest {
    private static final int INT = Samples.INT;
    private static final int LONG = Samples.LONG;
    private static final int FLOAT = Samples.FLOAT;
    private static final int DOUBLE = Samples.DOUBLE;
    private static final Due DUE = new Due();

    public static void main(String[] args) {
        wholes();
        reals();
        realEnds();
        anotherType();
        DUE.end();
    }

    private static Trial trial(String sentence) {
        return new Trial(DUE, sentence);
    }

    private static void wholes() {
        trial("- v, of a TYPE 3, 4: the least one wraps to itself")
            .minus(5, INT, -5).minus(-5, INT, 5).minus(0, INT, 0)
            .minus(2147483647, INT, -2147483647).minus(-2147483648L, INT, -2147483648L).minus(2147483648L, INT, -2147483648L)
            .minus(5, LONG, -5).minus(-5, LONG, 5).minus(0, LONG, 0)
            .minus(-2147483648L, LONG, 2147483648L)
            .minus(Long.MAX_VALUE, LONG, -Long.MAX_VALUE).minus(Long.MIN_VALUE, LONG, Long.MIN_VALUE);
    }

    private static void reals() {
        trial("- v, of a TYPE 5, 6: of 0.0 it is -0.0, not 0.0 - v")
            .minus(0, FLOAT, 0x80000000L).minus(0x80000000L, FLOAT, 0)
            .minus(0, DOUBLE, 1L << 63).minus(1L << 63, DOUBLE, 0)
            .minus(0x3f800000L, FLOAT, 0xbf800000L).minus(0xbf800000L, FLOAT, 0x3f800000L)
            .minus(0x3ff0000000000000L, DOUBLE, 0xbff0000000000000L).minus(0xbff0000000000000L, DOUBLE, 0x3ff0000000000000L);
    }

    private static void realEnds() {
        trial("- v, of a TYPE 5, 6: Infinity, NaN, the least and the greatest")
            .minus(0x7f800000L, FLOAT, 0xff800000L).minus(0xff800000L, FLOAT, 0x7f800000L)
            .minus(1, FLOAT, 0x80000001L).minus(0xff7fffffL, FLOAT, 0x7f7fffffL)
            .minus(0x7ff0000000000000L, DOUBLE, 0xfff0000000000000L).minus(0xfff0000000000000L, DOUBLE, 0x7ff0000000000000L)
            .minus(1, DOUBLE, 0x8000000000000001L).minus(0xffefffffffffffffL, DOUBLE, 0x7fefffffffffffffL)
            .minus(0x7fc00000L, FLOAT, 0x7fc00000L).minus(0xff800001L, FLOAT, 0x7fc00000L)
            .minus(0x7ff8000000000000L, DOUBLE, 0x7ff8000000000000L).minus(-1, DOUBLE, 0x7ff8000000000000L);
    }

    private static void anotherType() {
        Trial t = trial("IllegalArgumentException for another one");
        t.minus(1, Samples.CHAR, Trial.ILLEGAL).minus(1, Samples.BYTE, Trial.ILLEGAL).minus(1, Samples.SHORT, Trial.ILLEGAL);
        for (int type : Samples.NO_TYPES) {
            t.minus(1, type, Trial.ILLEGAL);
        }
        t.minus(1, INT, -1).minus(1L << 63, DOUBLE, 0);
    }
}

/** Promise 2, sentence by sentence: binary at its edges, with the answers written out. */
public final class BinaryEdgesTest {
    private static final int INT = Samples.INT;
    private static final int LONG = Samples.LONG;
    private static final int FLOAT = Samples.FLOAT;
    private static final int DOUBLE = Samples.DOUBLE;
    private static final Due DUE = new Due();

    public static void main(String[] args) {
        operatorsOfWholes();
        operatorsOfReals();
        typesThreeToSix();
        bitOperatorsOfWholesAlone();
        shiftsOfInts();
        shiftsOfLongs();
        anotherOp();
        anotherType();
        byWholeZero();
        byRealZero();
        leastByMinusOne();
        wholeRemainders();
        DUE.end();
    }

    private static Trial trial(String sentence) {
        return new Trial(DUE, sentence);
    }

    private static void operatorsOfWholes() {
        Trial t = trial("op 0 +, 1 -, 2 *, 3 /, 4 %, 5 &, 6 |, 7 ^, 8 <<, 9 >>, 10 >>> of a and b");
        for (int type = INT; type <= LONG; type++) {
            t.binary(0, -29, 5, type, -24).binary(1, -29, 5, type, -34).binary(2, -29, 5, type, -145);
            t.binary(3, -29, 5, type, -5).binary(4, -29, 5, type, -4);
            t.binary(5, -29, 5, type, 1).binary(6, -29, 5, type, -25).binary(7, -29, 5, type, -26);
            t.binary(8, -29, 5, type, -928).binary(9, -29, 5, type, -1);
        }
        t.binary(10, -29, 5, INT, 134217727).binary(10, -29, 5, LONG, 576460752303423487L);
    }

    private static void operatorsOfReals() {
        Trial t = trial("op 0 +, 1 -, 2 *, 3 /, 4 % of floats and doubles");
        double[] due = {9.5, 5.5, 15, 3.75, 1.5};
        for (int op = 0; op <= 4; op++) {
            t.binary(op, Samples.bits(7.5), Samples.bits(2.0), DOUBLE, Samples.bits(due[op]));
            t.binary(op, Samples.bits(7.5f), Samples.bits(2f), FLOAT, Samples.bits((float) due[op]));
        }
    }

    private static void typesThreeToSix() {
        Trial t = trial("both of the TYPE (3 to 6");
        for (int op = 0; op <= 4; op++) {
            for (int type = INT; type <= DOUBLE; type++) {
                // 0 op 1 of every type: the 1 is 1.0 in its own bits.
                long one = type == FLOAT ? 0x3f800000L : type == DOUBLE ? 0x3ff0000000000000L : 1;
                long minusOne = type == FLOAT ? 0xbf800000L : type == DOUBLE ? 0xbff0000000000000L : -1;
                t.binary(op, 0, one, type, op == 0 ? one : op == 1 ? minusOne : 0);
            }
            t.binary(op, 0, 1, Samples.SHORT, Trial.ILLEGAL).binary(op, 0, 1, 7, Trial.ILLEGAL);
        }
    }

    private static void bitOperatorsOfWholesAlone() {
        Trial t = trial("5 to 10 of 3, 4 alone");
        for (int op = 5; op <= 10; op++) {
            long want = op <= 5 ? 0 : op <= 8 ? 1 : 0;
            t.binary(op, op == 8 ? 1 : 0, op == 8 ? 0 : 1, INT, want).binary(op, op == 8 ? 1 : 0, op == 8 ? 0 : 1, LONG, want);
            t.binary(op, 1, 1, FLOAT, Trial.ILLEGAL).binary(op, 1, 1, DOUBLE, Trial.ILLEGAL);
        }
        t.binary(4, Samples.bits(5f), Samples.bits(3f), FLOAT, Samples.bits(2f));
        t.binary(4, Samples.bits(5.0), Samples.bits(3.0), DOUBLE, Samples.bits(2.0));
    }

    private static void shiftsOfInts() {
        Trial t = trial("of a shift the low 5 bits of b count");
        t.binary(8, 1, 31, INT, -2147483648L).binary(8, 1, 32, INT, 1).binary(8, 1, 33, INT, 2).binary(8, 1, -1, INT, -2147483648L);
        t.binary(8, 3, 31, INT, -2147483648L).binary(8, 2, 31, INT, 0);
        t.binary(9, -2147483648L, 31, INT, -1).binary(9, -2147483648L, 32, INT, -2147483648L).binary(9, 2147483647, 31, INT, 0);
        t.binary(9, -2147483648L, -31, INT, -1073741824);
        t.binary(10, -1, 31, INT, 1).binary(10, -1, 32, INT, -1).binary(10, -1, 33, INT, 2147483647).binary(10, -1, -1, INT, 1);
        t.binary(10, -1, 0, INT, -1).binary(10, -2, 64, INT, -2);
        t.binary(8, 1, 0x7fffffe1L, INT, 2).binary(8, 1, 0x4444444400000001L, INT, 2).binary(10, 0xffffffffL, 4, INT, 268435455);
        t.binary(9, 0x180000000L, 4, INT, -134217728);
    }

    private static void shiftsOfLongs() {
        Trial t = trial("of a long 6");
        t.binary(8, 1, 31, LONG, 2147483648L).binary(8, 1, 32, LONG, 4294967296L).binary(8, 1, 63, LONG, Long.MIN_VALUE);
        t.binary(8, 1, 64, LONG, 1).binary(8, 1, 65, LONG, 2).binary(8, 1, -1, LONG, Long.MIN_VALUE).binary(8, 2, 63, LONG, 0);
        t.binary(9, Long.MIN_VALUE, 63, LONG, -1).binary(9, Long.MIN_VALUE, 64, LONG, Long.MIN_VALUE);
        t.binary(9, Long.MAX_VALUE, 63, LONG, 0).binary(9, -1, 32, LONG, -1);
        t.binary(10, -1, 63, LONG, 1).binary(10, -1, 64, LONG, -1).binary(10, -1, 32, LONG, 4294967295L).binary(10, -1, -1, LONG, 1);
        t.binary(10, -1, 0, LONG, -1).binary(8, 1, 0x7fffffffffffffc1L, LONG, 2);
    }

    private static void anotherOp() {
        Trial t = trial("IllegalArgumentException for another op");
        for (int type = INT; type <= DOUBLE; type++) {
            for (int op : new int[] {-1, -2, 11, 12, 16, 256, Integer.MIN_VALUE, Integer.MAX_VALUE}) {
                t.binary(op, 1, 1, type, Trial.ILLEGAL);
            }
        }
        t.binary(0, 1, 1, INT, 2).binary(10, 2, 1, INT, 1);
    }

    private static void anotherType() {
        Trial t = trial("IllegalArgumentException for another TYPE");
        for (int op = 0; op <= 10; op++) {
            t.binary(op, 1, 1, Samples.CHAR, Trial.ILLEGAL).binary(op, 1, 1, Samples.BYTE, Trial.ILLEGAL);
            t.binary(op, 1, 1, Samples.SHORT, Trial.ILLEGAL);
            for (int type : Samples.NO_TYPES) {
                t.binary(op, 1, 1, type, Trial.ILLEGAL);
            }
        }
    }

    private static void byWholeZero() {
        Trial t = trial("ArithmeticException for / or % by a whole 0");
        for (int op = 3; op <= 4; op++) {
            for (long a : new long[] {0, 1, -1, Integer.MIN_VALUE, Long.MIN_VALUE, Long.MAX_VALUE}) {
                t.binary(op, a, 0, INT, Trial.ARITHMETIC).binary(op, a, 0, LONG, Trial.ARITHMETIC);
            }
            // A long whose low 32 bits are 0 is 0 as an int, but not as a long.
            t.binary(op, 7, 1L << 32, INT, Trial.ARITHMETIC).binary(op, 7, Long.MIN_VALUE, INT, Trial.ARITHMETIC);
            t.binary(op, 7, 1L << 32, LONG, op == 3 ? 0 : 7).binary(op, 7, Long.MIN_VALUE, LONG, op == 3 ? 0 : 7);
        }
        // 0 is no wrong divisor of a sum, nor a wrong dividend.
        t.binary(0, 7, 0, INT, 7).binary(2, 7, 0, LONG, 0).binary(3, 0, 7, INT, 0).binary(4, 0, 7, LONG, 0);
        t.binary(5, 7, 0, INT, 0).binary(8, 7, 0, LONG, 7);
    }

    private static void byRealZero() {
        Trial t = trial("by a whole 0: by 0.0 nothing is thrown");
        t.binary(3, 0x3f800000L, 0, FLOAT, 0x7f800000L).binary(3, 0x3f800000L, 0x80000000L, FLOAT, 0xff800000L);
        t.binary(3, 0xbf800000L, 0, FLOAT, 0xff800000L).binary(3, 0xbf800000L, 0x80000000L, FLOAT, 0x7f800000L);
        t.binary(3, 0, 0, FLOAT, 0x7fc00000L).binary(4, 0x3f800000L, 0, FLOAT, 0x7fc00000L);
        t.binary(3, 0x3ff0000000000000L, 0, DOUBLE, 0x7ff0000000000000L);
        t.binary(3, 0x3ff0000000000000L, 1L << 63, DOUBLE, 0xfff0000000000000L);
        t.binary(3, 0xfff0000000000000L, 0, DOUBLE, 0xfff0000000000000L);
        t.binary(3, 0, 0, DOUBLE, 0x7ff8000000000000L).binary(4, 0x3ff0000000000000L, 1L << 63, DOUBLE, 0x7ff8000000000000L);
    }

    private static void leastByMinusOne() {
        trial("the least whole number by -1 wraps")
            .binary(3, -2147483648L, -1, INT, -2147483648L).binary(4, -2147483648L, -1, INT, 0)
            .binary(3, 0x80000000L, 0xffffffffL, INT, -2147483648L)
            .binary(3, -2147483648L, -1, LONG, 2147483648L)
            .binary(3, Long.MIN_VALUE, -1, LONG, Long.MIN_VALUE).binary(4, Long.MIN_VALUE, -1, LONG, 0);
    }

    private static void wholeRemainders() {
        Trial t = trial("3 /, 4 % of whole numbers: towards 0, the remainder with the sign of a");
        for (int type = INT; type <= LONG; type++) {
            t.binary(3, 7, 2, type, 3).binary(3, -7, 2, type, -3).binary(3, 7, -2, type, -3).binary(3, -7, -2, type, 3);
            t.binary(4, 7, 2, type, 1).binary(4, -7, 2, type, -1).binary(4, 7, -2, type, 1).binary(4, -7, -2, type, -1);
        }
    }
}

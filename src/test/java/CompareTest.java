/** Promise 5: compare, against Java's own comparisons. */
public final class CompareTest {
    private static final Due DUE = new Due();
    private static final Supply SUPPLY = new Supply();

    public static void main(String[] args) {
        samples();
        DUE.end();
    }

    private static void check(long a, long b, int type, int want) {
        int got = SUPPLY.object(1).compare(a, b, type);
        DUE.same(() -> "compare(" + a + ", " + b + ", " + type + ")", got, want);
    }

    private static void samples() {
        for (long a : Samples.wholes()) {
            for (long b : Samples.wholes()) {
                check(a, b, Samples.INT, Integer.compare((int) a, (int) b));
                check(a, b, Samples.LONG, Long.compare(a, b));
            }
        }
        for (long a : Samples.floats()) {
            for (long b : Samples.floats()) {
                check(a, b, Samples.FLOAT, ofDoubles(Samples.floatOf(a), Samples.floatOf(b)));
            }
        }
        for (long a : Samples.doubles()) {
            for (long b : Samples.doubles()) {
                check(a, b, Samples.DOUBLE, ofDoubles(Samples.doubleOf(a), Samples.doubleOf(b)));
            }
        }
    }

    private static int ofDoubles(double a, double b) {
        return a < b ? -1 : a == b ? 0 : a > b ? 1 : 2;
    }
}

/** Promise 3: minus, against Java's own. */
public final class MinusTest {
    private static final Due DUE = new Due();
    private static final Supply SUPPLY = new Supply();

    public static void main(String[] args) {
        samples();
        DUE.end();
    }

    private static void check(long v, int type, long want) {
        DUE.same("minus(" + v + ", " + type + ")", SUPPLY.object(1).minus(v, type), want);
    }

    private static void samples() {
        for (long v : Samples.wholes()) {
            check(v, Samples.INT, -(int) v);
            check(v, Samples.LONG, -v);
        }
        for (long v : Samples.floats()) {
            check(v, Samples.FLOAT, Samples.bits(-Samples.floatOf(v)));
        }
        for (long v : Samples.doubles()) {
            check(v, Samples.DOUBLE, Samples.bits(-Samples.doubleOf(v)));
        }
    }
}

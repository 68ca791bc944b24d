/** Promise 7, sentence by sentence: take at its edges, with the answers written out. */
public final class TakeEdgesTest {
    private static final Due DUE = new Due();

    public static void main(String[] args) {
        trial("eight bits each, the last of them lowest")
            .text(-1234567, Samples.INT, 8).take(0x2d31323334353637L).take(0);
        trial("if there are fewer, these in the lowest bits")
            .text(7, Samples.INT, 1).take(0x37).text(42, Samples.INT, 2).take(0x3432).text(-42, Samples.INT, 3).take(0x2d3432)
            .text(1234567, Samples.INT, 7).take(0x31323334353637L);
        eachLength();
        trial("they are gone then")
            .text(1234567890123456L, Samples.LONG, 16).take("12345678").take("90123456").take(0)
            .text(123456789, Samples.INT, 9).take("12345678").take("9").take(0).take(0);
        trial("they are gone then, also for a text that follows")
            .text(123456789, Samples.INT, 9).take("12345678").text(5, Samples.INT, 1).take("5").take(0);
        trial("0 without: a new object").take(0);
        trial("0 without: all are taken, with eight to a take and with fewer")
            .text(12345678, Samples.INT, 8).take("12345678").take(0).take(0).text(9, Samples.INT, 1).take("9").take(0).take(0);
        betweenTakes();
        DUE.end();
    }

    private static Trial trial(String sentence) {
        return new Trial(DUE, sentence);
    }

    private static void eachLength() {
        Trial t = trial("the next eight characters of the text, of every length");
        String digits = "1234567890123456789";
        for (int length = 1; length <= digits.length(); length++) {
            String some = digits.substring(0, length);
            t.shows(Long.parseLong(some), Samples.LONG, some).shows(-Long.parseLong(some), Samples.LONG, "-" + some);
        }
        t.shows(-1.234567890123456E16, "-1.234567890123456E16").shows(-1.234567890123456E-16, "-1.234567890123456E-16");
        t.shows(1.2345678901234567E-200, "1.2345678901234567E-200").shows(-2.2250738585072014E-308, "-2.2250738585072014E-308");
        t.shows(Double.NaN, "NaN").shows(Double.POSITIVE_INFINITY, "Infinity").shows(Double.NEGATIVE_INFINITY, "-Infinity");
    }

    private static void betweenTakes() {
        trial("the next ones: other calls between two takes leave them alone")
            .text(Long.MIN_VALUE, Samples.LONG, 20).take("-9223372").binary(0, 1, 2, Samples.INT, 3).minus(1, Samples.INT, -1)
            .take("03685477").cast(7, Samples.INT, Samples.LONG, 7).compare(1, 2, Samples.INT, -1).take("5808").take(0);
    }
}

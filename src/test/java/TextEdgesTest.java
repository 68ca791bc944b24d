/** Promise 6, sentence by sentence: text at its edges, with the letters written out. */
public final class TextEdgesTest {
    private static final int INT = Samples.INT;
    private static final int LONG = Samples.LONG;
    private static final int FLOAT = Samples.FLOAT;
    private static final int DOUBLE = Samples.DOUBLE;
    private static final Due DUE = new Due();

    public static void main(String[] args) {
        eachType();
        before();
        counts();
        wholes();
        nans();
        signs();
        fewestDigits();
        readAsTheEvenOne();
        powersOfTwo();
        atLeastTwo();
        nearest();
        evenOfTwo();
        plainFrom();
        plainBelow();
        pointWhereItIs();
        powerOfTen();
        ends();
        anotherType();
        DUE.end();
    }

    private static Trial trial(String sentence) {
        return new Trial(DUE, sentence);
    }

    private static void eachType() {
        trial("the text of v, of TYPE 1 to 6")
            .shows(65, Samples.BYTE, "65").shows(65, Samples.SHORT, "65").shows(65, INT, "65").shows(65, LONG, "65")
            .shows(65f, "65.0").shows(65.0, "65.0").shows(65, FLOAT, "9.1E-44").shows(65, DOUBLE, "3.2E-322");
    }

    private static void before() {
        trial("what was before is gone: nothing of it was taken")
            .text(Long.MIN_VALUE, LONG, 20).text(5, INT, 1).take("5").take(0)
            .text(5, INT, 1).text(Long.MIN_VALUE, LONG, 20).take("-9223372").take("03685477").take("5808").take(0);
        trial("what was before is gone: some of it was taken")
            .text(Long.MIN_VALUE, LONG, 20).take("-9223372").text(678, INT, 3).take("678").take(0)
            .text(123456789, INT, 9).take("12345678").text(123456789, INT, 9).take("12345678").take("9").take(0);
        trial("what was before is gone: all of it was taken")
            .text(42, INT, 2).take("42").take(0).text(42, INT, 2).take("42").take(0);
    }

    private static void counts() {
        trial("how many characters")
            .text(0, INT, 1).text(-1, INT, 2).text(99, INT, 2).text(100, INT, 3).text(-2147483648L, INT, 11)
            .text(Long.MIN_VALUE, LONG, 20).text(Long.MAX_VALUE, LONG, 19).text(0, DOUBLE, 3).text(1L << 63, DOUBLE, 4)
            .text(-1, DOUBLE, 3).text(0x7ff0000000000000L, DOUBLE, 8).text(0xfff0000000000000L, DOUBLE, 9)
            .text(0x8010000000000000L, DOUBLE, 24).text(1, DOUBLE, 8).text(0xff7fffffL, FLOAT, 13).text(0x80800000L, FLOAT, 14)
            // A text counts whole, also when another one was half taken.
            .take("-1.17549").text(1234567890, INT, 10);
    }

    private static void wholes() {
        trial("whole numbers in decimal")
            .shows(0, Samples.BYTE, "0").shows(127, Samples.BYTE, "127").shows(-128, Samples.BYTE, "-128").shows(-1, Samples.BYTE, "-1")
            .shows(0, Samples.SHORT, "0").shows(32767, Samples.SHORT, "32767").shows(-32768, Samples.SHORT, "-32768")
            .shows(0, INT, "0").shows(9, INT, "9").shows(10, INT, "10").shows(-10, INT, "-10").shows(1000000, INT, "1000000")
            .shows(10000000, INT, "10000000").shows(2147483647, INT, "2147483647").shows(-2147483648L, INT, "-2147483648")
            .shows(0, LONG, "0").shows(-1, LONG, "-1").shows(2147483648L, LONG, "2147483648")
            .shows(1000000000000000000L, LONG, "1000000000000000000").shows(999999999999999999L, LONG, "999999999999999999")
            .shows(Long.MAX_VALUE, LONG, "9223372036854775807").shows(Long.MIN_VALUE, LONG, "-9223372036854775808")
            .shows(Long.MIN_VALUE + 1, LONG, "-9223372036854775807");
    }

    private static void nans() {
        trial("NaN (never with a sign)")
            .shows(0x7fc00000L, FLOAT, "NaN").shows(0xffc00000L, FLOAT, "NaN").shows(0x7f800001L, FLOAT, "NaN")
            .shows(0xff800001L, FLOAT, "NaN").shows(0xffffffffL, FLOAT, "NaN").shows(0x7ff8000000000000L, DOUBLE, "NaN")
            .shows(0xfff8000000000000L, DOUBLE, "NaN").shows(0x7ff0000000000001L, DOUBLE, "NaN")
            .shows(0xfff0000000000001L, DOUBLE, "NaN").shows(-1, DOUBLE, "NaN");
    }

    private static void signs() {
        trial("Infinity, 0.0, these (and all others) with a - before if the sign bit is 1")
            .shows(0x7f800000L, FLOAT, "Infinity").shows(0xff800000L, FLOAT, "-Infinity").shows(0, FLOAT, "0.0")
            .shows(0x80000000L, FLOAT, "-0.0").shows(0x7ff0000000000000L, DOUBLE, "Infinity")
            .shows(0xfff0000000000000L, DOUBLE, "-Infinity").shows(0, DOUBLE, "0.0").shows(1L << 63, DOUBLE, "-0.0")
            .shows(1.5f, "1.5").shows(-1.5f, "-1.5").shows(-0.001f, "-0.001").shows(-1e10f, "-1.0E10").shows(-1.4E-45f, "-1.4E-45")
            .shows(1.5, "1.5").shows(-1.5, "-1.5").shows(-0.001, "-0.001").shows(-1e-10, "-1.0E-10").shows(-4.9E-324, "-4.9E-324")
            .shows(Double.MAX_VALUE, "1.7976931348623157E308").shows(-Double.MAX_VALUE, "-1.7976931348623157E308");
    }

    private static void fewestDigits() {
        trial("the fewest digits from which it is read as the same number of its TYPE")
            .shows(0.1, "0.1").shows(0.1f, "0.1").shows((double) 0.1f, "0.10000000149011612").shows(0.3, "0.3")
            .shows(0.1 + 0.2, "0.30000000000000004").shows(1.0 / 3, "0.3333333333333333").shows(1f / 3, "0.33333334")
            .shows(2.0 / 3, "0.6666666666666666").shows(2f / 3, "0.6666667").shows(100.0 / 3, "33.333333333333336")
            .shows(1e23, "1.0E23").shows(Math.nextDown(1e23), "9.999999999999997E22").shows(2e23, "2.0E23")
            .shows(1.0000000000000002, "1.0000000000000002").shows(0.9999999999999999, "0.9999999999999999")
            .shows(1.0000001f, "1.0000001").shows(0.99999994f, "0.99999994").shows(16777216f, "1.6777216E7")
            .shows(3.3554432E7f, "3.3554432E7").shows(9007199254740992.0, "9.007199254740992E15")
            .shows(9007199254740991.0, "9.007199254740991E15").shows(123456.789, "123456.789").shows(3.14159265f, "3.1415927")
            .shows(8.41E21, "8.41E21").shows(2.0E-3, "0.002").shows(5.0E-320, "5.0E-320").shows(1.0E-323, "9.9E-324");
    }

    private static void readAsTheEvenOne() {
        // 67108900 and 67109100 lie halfway between two floats, ..2010 and ..1990 between two doubles.
        trial("is read as the same number: a decimal halfway between two is read as the even one of them")
            .shows(67108896f, "6.71089E7").shows(67108904f, "6.7108904E7")
            .shows(67109104f, "6.71091E7").shows(67109096f, "6.7109096E7")
            .shows(18014398509482008.0, "1.801439850948201E16").shows(18014398509482012.0, "1.8014398509482012E16")
            .shows(18014398509481992.0, "1.801439850948199E16").shows(18014398509481988.0, "1.8014398509481988E16");
    }

    private static void powersOfTwo() {
        trial("is read as the same number: below a power of two the next number is half as far")
            .shows(0x1p-44, "5.684341886080802E-14").shows(0x1p-24, "5.960464477539063E-8").shows(0x1p-25, "2.9802322387695312E-8")
            .shows(0x1p64, "1.8446744073709552E19").shows(0x1p-1019, "1.7800590868057611E-307")
            .shows(0x1p1002, "4.2860344287450693E301").shows(0x1p-1022, "2.2250738585072014E-308")
            .shows(0x1p25f, "3.3554432E7").shows(0x1p-96f, "1.2621775E-29").shows(0x1p96f, "7.9228163E28")
            .shows(0x1p-103f, "9.8607613E-32").shows(0x1p-126f, "1.1754944E-38");
    }

    private static void atLeastTwo() {
        // With one digit 5E-324, 1E-323, 3E-45 and 1E-44 would do; of two digits others are nearer.
        trial("(at least two)")
            .shows(1, DOUBLE, "4.9E-324").shows(2, DOUBLE, "9.9E-324").shows(3, DOUBLE, "1.5E-323").shows(4, DOUBLE, "2.0E-323")
            .shows(1, FLOAT, "1.4E-45").shows(2, FLOAT, "2.8E-45").shows(3, FLOAT, "4.2E-45").shows(7, FLOAT, "9.8E-45")
            .shows(1.0, "1.0").shows(5f, "5.0").shows(1e-5, "1.0E-5").shows(2e22, "2.0E22").shows(7e7f, "7.0E7");
    }

    private static void nearest() {
        // Other decimals of as many digits are read as the same number too.
        trial("of these the nearest to it")
            .shows(2.2250738585072014E-308, "2.2250738585072014E-308").shows(Math.nextDown(0x1p-1022), "2.225073858507201E-308")
            .shows(1.7976931348623157E308, "1.7976931348623157E308").shows(3.4028235E38f, "3.4028235E38")
            .shows(5, DOUBLE, "2.5E-323").shows(9, DOUBLE, "4.4E-323").shows(11, DOUBLE, "5.4E-323").shows(17, DOUBLE, "8.4E-323")
            .shows(6, FLOAT, "8.4E-45").shows(10, FLOAT, "1.4E-44").shows(19, FLOAT, "2.7E-44").shows(33, FLOAT, "4.6E-44")
            .shows(0x1p54, "1.8014398509481984E16").shows(2.0E15 + 0.25, "2.0000000000000002E15").shows(2251799813685248.5, "2.2517998136852485E15")
            .shows(9.0071992547409936E16, "9.007199254740994E16").shows(9.0071992547409952E16, "9.007199254740995E16")
            .shows(9.0071992547410048E16, "9.007199254741005E16").shows(9.0071992547410064E16, "9.007199254741006E16")
            // These lie but little above the middle of two decimals, and are nearer to the odd one.
            .shows(1.2186218384074353E33, "1.2186218384074353E33").shows(3.6169633583320905E-115, "3.6169633583320905E-115")
            .shows(1.0460563E16f, "1.0460563E16").shows(1.8229555E-37f, "1.8229555E-37");
    }

    private static void evenOfTwo() {
        // Each of these lies halfway between the decimal that is due and its odd neighbour.
        trial("of two the even one")
            .shows(1125899906842624.25, "1.1258999068426242E15").shows(1125899906842624.75, "1.1258999068426248E15")
            .shows(1125899906842625.25, "1.1258999068426252E15").shows(-1125899906842625.75, "-1.1258999068426258E15")
            .shows(0.0205078125f, "0.020507812").shows(1903976.75f, "1903976.8").shows(1903976.25f, "1903976.2");
    }

    private static void plainFrom() {
        trial("from 0.001 with the point where it is, below it with E")
            .shows(0.001, "0.001").shows(Math.nextUp(0.001), "0.0010000000000000002").shows(Math.nextDown(0.001), "9.999999999999998E-4")
            .shows(0.00123, "0.00123").shows(9.9E-4, "9.9E-4").shows(1e-4, "1.0E-4").shows(0.0012345678901234567, "0.0012345678901234567")
            .shows(0.001f, "0.001").shows(Math.nextUp(0.001f), "0.0010000002").shows(Math.nextDown(0.001f), "9.999999E-4")
            .shows(-0.001, "-0.001").shows(-Math.nextDown(0.001), "-9.999999999999998E-4");
    }

    private static void plainBelow() {
        trial("to below 10000000 with the point where it is, from it on with E")
            .shows(9999999.0, "9999999.0").shows(9999999.5, "9999999.5").shows(Math.nextDown(1e7), "9999999.999999998")
            .shows(1e7, "1.0E7").shows(Math.nextUp(1e7), "1.0000000000000002E7").shows(12345678.0, "1.2345678E7")
            .shows(9999999f, "9999999.0").shows(1e7f, "1.0E7").shows(10000001f, "1.0000001E7")
            .shows(-9999999.0, "-9999999.0").shows(-1e7, "-1.0E7").shows(99999990.0, "9.999999E7");
    }

    private static void pointWhereItIs() {
        trial("with the point where it is")
            .shows(0.01, "0.01").shows(0.012, "0.012").shows(0.5, "0.5").shows(1.0, "1.0").shows(1.25, "1.25").shows(10.0, "10.0")
            .shows(12.5, "12.5").shows(100.0, "100.0").shows(120.0, "120.0").shows(1000000.0, "1000000.0")
            .shows(1234567.0, "1234567.0").shows(1234567.125, "1234567.125").shows(1200000.0, "1200000.0").shows(1000.001, "1000.001")
            .shows(0.1f, "0.1").shows(0.05f, "0.05").shows(20f, "20.0").shows(1000000f, "1000000.0").shows(4096.5f, "4096.5");
    }

    private static void powerOfTen() {
        trial("else one digit before the point, and E and the power of ten")
            .shows(1e8, "1.0E8").shows(1.5e9, "1.5E9").shows(123456789.0, "1.23456789E8").shows(1e10, "1.0E10").shows(1e99, "1.0E99")
            .shows(1e100, "1.0E100").shows(1e22, "1.0E22").shows(6.02214076E23, "6.02214076E23")
            .shows(1e-9, "1.0E-9").shows(1e-10, "1.0E-10").shows(1.25e-99, "1.25E-99").shows(1e-100, "1.0E-100")
            .shows(1e38f, "1.0E38").shows(1e-38f, "1.0E-38").shows(1.5e-9f, "1.5E-9").shows(120000000f, "1.2E8");
    }

    private static void ends() {
        trial("the least and the greatest, with and without a leading 1")
            .shows(Double.MIN_VALUE, "4.9E-324").shows(Math.nextDown(Double.MIN_NORMAL), "2.225073858507201E-308")
            .shows(Double.MIN_NORMAL, "2.2250738585072014E-308").shows(Double.MAX_VALUE, "1.7976931348623157E308")
            .shows(Math.nextDown(Double.MAX_VALUE), "1.7976931348623155E308").shows(2.2E-322, "2.2E-322")
            .shows(Float.MIN_VALUE, "1.4E-45").shows(Math.nextDown(Float.MIN_NORMAL), "1.1754942E-38")
            .shows(Float.MIN_NORMAL, "1.1754944E-38").shows(Float.MAX_VALUE, "3.4028235E38")
            .shows(Math.nextDown(Float.MAX_VALUE), "3.4028233E38");
    }

    private static void anotherType() {
        Trial t = trial("IllegalArgumentException for another TYPE");
        t.text(65, Samples.CHAR, Trial.ILLEGAL).text(0, Samples.CHAR, Trial.ILLEGAL);
        for (int type : Samples.NO_TYPES) {
            t.text(65, type, Trial.ILLEGAL);
        }
        t.take(0).text(6, Samples.BYTE, 1).take("6").text(0, DOUBLE, 3).take("0.0");
    }
}

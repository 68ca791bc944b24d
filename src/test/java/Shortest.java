import java.math.BigDecimal;
import java.math.MathContext;
import java.math.RoundingMode;

/**
 * The text of a float or double that is neither 0 nor infinite nor NaN, found by trying: the digits
 * are read back by the library. (Java 17's own toString does not always find the fewest digits.)
 */
final class Shortest {
    private interface Reader {
        boolean isRead(BigDecimal decimal);
    }

    static String text(double v) {
        double magnitude = Math.abs(v);
        String text = textOf(new BigDecimal(magnitude), decimal -> Double.parseDouble(decimal.toString()) == magnitude);
        return v < 0 ? "-" + text : text;
    }

    static String text(float v) {
        float magnitude = Math.abs(v);
        String text = textOf(new BigDecimal(magnitude), decimal -> Float.parseFloat(decimal.toString()) == magnitude);
        return v < 0 ? "-" + text : text;
    }

    private static String textOf(BigDecimal exact, Reader reader) {
        for (int count = 2; count <= 17; count++) {
            BigDecimal below = exact.round(new MathContext(count, RoundingMode.DOWN));
            BigDecimal above = exact.round(new MathContext(count, RoundingMode.UP));
            boolean isBelow = reader.isRead(below);
            boolean isAbove = reader.isRead(above);
            if (isBelow && isAbove) {
                return written(nearer(exact, below, above));
            }
            if (isBelow || isAbove) {
                return written(isBelow ? below : above);
            }
        }
        throw new IllegalStateException("17 digits are not enough for " + exact);
    }

    private static BigDecimal nearer(BigDecimal exact, BigDecimal below, BigDecimal above) {
        int order = exact.subtract(below).compareTo(above.subtract(exact));
        if (order != 0) {
            return order < 0 ? below : above;
        }
        return below.unscaledValue().testBit(0) ? above : below;
    }

    private static String written(BigDecimal v) {
        BigDecimal least = v.stripTrailingZeros();
        if (v.compareTo(new BigDecimal("0.001")) >= 0 && v.compareTo(new BigDecimal("10000000")) < 0) {
            String plain = least.toPlainString();
            return plain.indexOf('.') < 0 ? plain + ".0" : plain;
        }
        String digits = least.unscaledValue().toString();
        String behind = digits.length() == 1 ? "0" : digits.substring(1);
        return digits.charAt(0) + "." + behind + "E" + (digits.length() - 1 - least.scale());
    }
}

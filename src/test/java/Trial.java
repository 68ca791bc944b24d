import java.util.function.LongSupplier;

/** One sentence of the document and a new object that it is tried on; wrong answers are told with it. */
final class Trial {
    static final String ILLEGAL = "IllegalArgumentException";
    static final String ARITHMETIC = "ArithmeticException";

    private final Due due;
    private final String sentence;
    private final PrimitiveBits x = new PrimitiveBits();
    private int calls = 0;

    Trial(Due due, String sentence) {
        this.due = due;
        this.sentence = sentence;
    }

    Trial binary(int op, long a, long b, int type, long want) {
        return binary(op, a, b, type, Long.toString(want));
    }

    Trial binary(int op, long a, long b, int type, String want) {
        return answers("binary(" + op + ", " + a + ", " + b + ", " + type + ")", () -> x.binary(op, a, b, type), want);
    }

    Trial minus(long v, int type, long want) {
        return minus(v, type, Long.toString(want));
    }

    Trial minus(long v, int type, String want) {
        return answers("minus(" + v + ", " + type + ")", () -> x.minus(v, type), want);
    }

    Trial cast(long v, int from, int to, long want) {
        return cast(v, from, to, Long.toString(want));
    }

    Trial cast(long v, int from, int to, String want) {
        return answers("cast(" + v + ", " + from + ", " + to + ")", () -> x.cast(v, from, to), want);
    }

    Trial compare(long a, long b, int type, long want) {
        return compare(a, b, type, Long.toString(want));
    }

    Trial compare(long a, long b, int type, String want) {
        return answers("compare(" + a + ", " + b + ", " + type + ")", () -> x.compare(a, b, type), want);
    }

    /** text alone: how many characters, or the exception. */
    Trial text(long v, int type, long want) {
        return text(v, type, Long.toString(want));
    }

    Trial text(long v, int type, String want) {
        return answers("text(" + v + ", " + type + ")", () -> x.text(v, type), want);
    }

    /** text and all takes: the letters, and behind them nothing. */
    Trial shows(long v, int type, String letters) {
        text(v, type, letters.length());
        for (int from = 0; from < letters.length(); from += 8) {
            take(letters.substring(from, Math.min(from + 8, letters.length())));
        }
        return take("");
    }

    Trial shows(double v, String letters) {
        return shows(Double.doubleToRawLongBits(v), Samples.DOUBLE, letters);
    }

    Trial shows(float v, String letters) {
        return shows(Float.floatToRawIntBits(v) & 0xffffffffL, Samples.FLOAT, letters);
    }

    Trial take(String letters) {
        long packed = 0;
        for (int i = 0; i < letters.length(); i++) {
            packed = packed * 256 + letters.charAt(i);
        }
        return take(packed);
    }

    Trial take(long want) {
        return answers("take()", x::take, Long.toString(want));
    }

    int calls() {
        return calls;
    }

    private Trial answers(String call, LongSupplier made, String want) {
        calls++;
        if (calls > Supply.MOST_CALLS) {
            throw new IllegalStateException("more calls on one object than the document promises answers for");
        }
        due.same(sentence + ": call " + calls + ", " + call + ",", Due.outcome(made), want);
        return this;
    }
}

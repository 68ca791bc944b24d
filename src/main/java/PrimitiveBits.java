/** The operators of Java on its numbers, bit for bit; every value goes in and out as a long. */
public final class PrimitiveBits {
    private static final int CHAR = 0;
    private static final int BYTE = 1;
    private static final int SHORT = 2;
    private static final int INT = 3;
    private static final int LONG = 4;
    private static final int FLOAT = 5;
    private static final int DOUBLE = 6;

    private static final int ADD = 0;
    private static final int SUBTRACT = 1;
    private static final int MULTIPLY = 2;
    private static final int DIVIDE = 3;
    private static final int REMAINDER = 4;
    private static final int AND = 5;
    private static final int OR = 6;
    private static final int XOR = 7;
    private static final int SHIFT_LEFT = 8;
    private static final int SHIFT_RIGHT = 9;
    private static final int SHIFT_RIGHT_UNSIGNED = 10;

    private static final int NOT_ORDERED = 2;
    private static final int LETTERS_A_TAKE = 8;
    private static final long LOW_32 = 0xffffffffL;
    private static final long LEAST_INT = -0x80000000L;
    private static final long GREATEST_INT = 0x7fffffffL;
    private static final long LEAST_LONG = 0x8000000000000000L;
    private static final long GREATEST_LONG = 0x7fffffffffffffffL;

    private final Letters letters;
    private final ShortestDecimal shortest;

    public PrimitiveBits() {
        letters = new Letters();
        shortest = new ShortestDecimal();
    }

    public long binary(int op, long a, long b, int type) throws IllegalArgumentException, ArithmeticException {
        if (!isArithmetic(type) || op < ADD || op > lastOperator(type)) {
            throw new IllegalArgumentException("no such operator of this type");
        }
        if (isWhole(type)) {
            return wholeOf(wholeResult(op, wholeOf(a, type), wholeOf(b, type), type), type);
        }
        return realResult(op, a, b, realOf(type));
    }

    public long minus(long v, int type) throws IllegalArgumentException {
        if (!isArithmetic(type)) {
            throw new IllegalArgumentException("no minus of this type");
        }
        return isWhole(type) ? wholeOf(-v, type) : realOf(type).negate(v);
    }

    public long cast(long v, int from, int to) throws IllegalArgumentException {
        if (from < CHAR || from > DOUBLE || to < CHAR || to > DOUBLE) {
            throw new IllegalArgumentException("no such type");
        }
        if (isWhole(from)) {
            long whole = wholeOf(v, from);
            return isWhole(to) ? wholeOf(whole, to) : realOf(to).fromWhole(whole);
        }
        return isWhole(to) ? wholeFromReal(v, realOf(from), to) : realOf(to).fromReal(v, realOf(from));
    }

    public int compare(long a, long b, int type) throws IllegalArgumentException {
        if (!isArithmetic(type)) {
            throw new IllegalArgumentException("no comparison of this type");
        }
        if (isWhole(type)) {
            return order(wholeOf(a, type), wholeOf(b, type));
        }
        Real real = realOf(type);
        if (real.isNan(a) || real.isNan(b)) {
            return NOT_ORDERED;
        }
        return order(real.rank(a), real.rank(b));
    }

    public int text(long v, int type) throws IllegalArgumentException {
        if (type < BYTE || type > DOUBLE) {
            throw new IllegalArgumentException("no text of this type");
        }
        letters.clear();
        if (isWhole(type)) {
            letters.putWhole(wholeOf(v, type));
        } else {
            putReal(v, realOf(type));
        }
        return letters.count();
    }

    public long take() {
        return letters.next(LETTERS_A_TAKE);
    }

    private static boolean isArithmetic(int type) {
        return type >= INT && type <= DOUBLE;
    }

    private static boolean isWhole(int type) {
        return type <= LONG;
    }

    private static int lastOperator(int type) {
        return isWhole(type) ? SHIFT_RIGHT_UNSIGNED : REMAINDER;
    }

    private static Real realOf(int type) {
        return type == FLOAT ? Real.FLOAT : Real.DOUBLE;
    }

    private static long wholeOf(long v, int type) {
        switch (type) {
            case CHAR:
                return (char) v;
            case BYTE:
                return (byte) v;
            case SHORT:
                return (short) v;
            case INT:
                return (int) v;
            default:
                return v;
        }
    }

    private static int order(long a, long b) {
        return a < b ? -1 : a > b ? 1 : 0;
    }

    // An int is reckoned as a long: its low 32 bits, which alone are kept, come out the same.
    private static long wholeResult(int op, long a, long b, int type) {
        if ((op == DIVIDE || op == REMAINDER) && b == 0) {
            throw new ArithmeticException("by a whole 0");
        }
        switch (op) {
            case ADD:
                return a + b;
            case SUBTRACT:
                return a - b;
            case MULTIPLY:
                return a * b;
            case DIVIDE:
                return a / b;
            case REMAINDER:
                return a % b;
            case AND:
                return a & b;
            case OR:
                return a | b;
            case XOR:
                return a ^ b;
            default:
                return type == INT ? shiftedInt(op, (int) a, (int) b) : shiftedLong(op, a, (int) b);
        }
    }

    private static long shiftedInt(int op, int a, int places) {
        switch (op) {
            case SHIFT_LEFT:
                return a << (places & 31);
            case SHIFT_RIGHT:
                return a >> (places & 31);
            default:
                return a >>> (places & 31);
        }
    }

    private static long shiftedLong(int op, long a, int places) {
        switch (op) {
            case SHIFT_LEFT:
                return a << (places & 63);
            case SHIFT_RIGHT:
                return a >> (places & 63);
            default:
                return a >>> (places & 63);
        }
    }

    private static long realResult(int op, long a, long b, Real real) {
        if (real.isNan(a) || real.isNan(b)) {
            return real.nan();
        }
        switch (op) {
            case ADD:
                return real.sum(a, b);
            case SUBTRACT:
                return real.sum(a, real.negate(b));
            case MULTIPLY:
                return real.product(a, b);
            case DIVIDE:
                return real.quotient(a, b);
            default:
                return real.remainder(a, b);
        }
    }

    // Java casts to char, byte and short by way of int, which stops at the ends of int before it wraps.
    private static long wholeFromReal(long v, Real real, int to) {
        long whole = real.toLong(v);
        if (to == LONG) {
            return whole;
        }
        return wholeOf(Math.max(LEAST_INT, Math.min(GREATEST_INT, whole)), to);
    }

    private void putReal(long v, Real real) {
        if (real.isNan(v)) {
            letters.put("NaN");
            return;
        }
        if (real.isNegative(v)) {
            letters.put('-');
        }
        if (real.isInfinite(v)) {
            letters.put("Infinity");
        } else if (real.isZero(v)) {
            letters.put("0.0");
        } else {
            shortest.find(real.significand(v), real.power(v), real.isCloserBelow(v));
            letters.putDecimal(shortest.digits(), shortest.power());
        }
    }

    /** Zeros above the highest 1 of v, which is not negative and not 0: 1 to 63. */
    private static int leadingZeros(long v) {
        int zeros = 0;
        long rest = v;
        for (int step = 32; step > 0; step >>= 1) {
            if (rest >>> (64 - step) == 0) {
                zeros += step;
                rest <<= step;
            }
        }
        return zeros;
    }

    /**
     * The two formats of IEEE 754. A finite number is its significand times two to its power; of a
     * float the bits above the sign are never looked at.
     */
    private enum Real {
        FLOAT(23, 8), DOUBLE(52, 11);

        // Two significands of this many more bits still add up within a long.
        private static final int GUARD_BITS = 9;
        // A remainder, which is below a significand of 53 bits, can be shifted so far within a long.
        private static final int CHUNK_BITS = 10;
        private static final int QUOTIENT_CHUNKS = 6;

        private final int fractionBits;
        private final int topExponent;
        private final int lowestPower;
        private final long signBit;
        private final long infinity;

        Real(int fractionBits, int exponentBits) {
            this.fractionBits = fractionBits;
            topExponent = (1 << exponentBits) - 1;
            lowestPower = 2 - (1 << (exponentBits - 1)) - fractionBits;
            signBit = 1L << (fractionBits + exponentBits);
            infinity = (long) topExponent << fractionBits;
        }

        long nan() {
            return infinity | 1L << (fractionBits - 1);
        }

        boolean isNegative(long v) {
            return (v & signBit) != 0;
        }

        boolean isNan(long v) {
            return magnitude(v) > infinity;
        }

        boolean isInfinite(long v) {
            return magnitude(v) == infinity;
        }

        boolean isZero(long v) {
            return magnitude(v) == 0;
        }

        /** A long that stands among others as v does among numbers; 0 for both zeros. */
        long rank(long v) {
            return isNegative(v) ? -magnitude(v) : magnitude(v);
        }

        long significand(long v) {
            return exponent(v) == 0 ? fraction(v) : fraction(v) | 1L << fractionBits;
        }

        int power(long v) {
            return lowestPower + Math.max(exponent(v), 1) - 1;
        }

        /** Whether the next number below is only half as far away as the next one above. */
        boolean isCloserBelow(long v) {
            return fraction(v) == 0 && exponent(v) > 1;
        }

        long negate(long v) {
            return isNan(v) ? nan() : signed(!isNegative(v), magnitude(v));
        }

        long sum(long a, long b) {
            if (isInfinite(a) || isInfinite(b)) {
                return infiniteSum(a, b);
            }
            if (magnitude(a) < magnitude(b)) {
                return orderedSum(b, a);
            }
            return orderedSum(a, b);
        }

        long product(long a, long b) {
            boolean negative = isNegative(a) != isNegative(b);
            if (isInfinite(a) || isInfinite(b)) {
                return isZero(a) || isZero(b) ? nan() : signed(negative, infinity);
            }
            if (isZero(a) || isZero(b)) {
                return signed(negative, 0);
            }
            long left = aligned(a);
            long right = aligned(b);
            long high = jammed(highProduct(left, right), left * right != 0);
            return rounded(negative, alignedPower(a) + alignedPower(b) + 64, high);
        }

        long quotient(long a, long b) {
            boolean negative = isNegative(a) != isNegative(b);
            if (isInfinite(a)) {
                return isInfinite(b) ? nan() : signed(negative, infinity);
            }
            if (isZero(b)) {
                return isZero(a) ? nan() : signed(negative, infinity);
            }
            if (isInfinite(b) || isZero(a)) {
                return signed(negative, 0);
            }
            int power = alignedPower(a) - alignedPower(b) - QUOTIENT_CHUNKS * CHUNK_BITS;
            return rounded(negative, power, dividedSignificands(aligned(a), aligned(b)));
        }

        long remainder(long a, long b) {
            if (isInfinite(a) || isZero(b)) {
                return nan();
            }
            if (magnitude(a) < magnitude(b)) {
                return signed(isNegative(a), magnitude(a));
            }
            long divisor = significand(b);
            long rest = significand(a) % divisor;
            for (int left = power(a) - power(b); left > 0; left -= CHUNK_BITS) {
                rest = (rest << Math.min(left, CHUNK_BITS)) % divisor;
            }
            return rounded(isNegative(a), power(b), rest);
        }

        long fromWhole(long whole) {
            if (whole == LEAST_LONG) {
                return rounded(true, 1, 1L << 62);
            }
            return rounded(whole < 0, 0, whole < 0 ? -whole : whole);
        }

        long fromReal(long v, Real source) {
            if (source.isNan(v)) {
                return nan();
            }
            if (source.isInfinite(v)) {
                return signed(source.isNegative(v), infinity);
            }
            return rounded(source.isNegative(v), source.power(v), source.significand(v));
        }

        /** Without what is behind the point; beyond the ends of long these ends; 0 of NaN. */
        long toLong(long v) {
            if (isNan(v)) {
                return 0;
            }
            int power = power(v);
            if (power > 62 - fractionBits) {
                return isNegative(v) ? LEAST_LONG : GREATEST_LONG;
            }
            if (power <= -64) {
                return 0;
            }
            long whole = power < 0 ? significand(v) >>> -power : significand(v) << power;
            return isNegative(v) ? -whole : whole;
        }

        private long magnitude(long v) {
            return v & (signBit - 1);
        }

        private int exponent(long v) {
            return (int) (v >>> fractionBits) & topExponent;
        }

        private long fraction(long v) {
            return v & ((1L << fractionBits) - 1);
        }

        private long signed(boolean negative, long magnitude) {
            return negative ? magnitude | signBit : magnitude;
        }

        private long infiniteSum(long a, long b) {
            if (isInfinite(a) && isInfinite(b) && isNegative(a) != isNegative(b)) {
                return nan();
            }
            return signed(isInfinite(a) ? isNegative(a) : isNegative(b), infinity);
        }

        private long orderedSum(long greater, long lesser) {
            boolean sameSign = isNegative(greater) == isNegative(lesser);
            long high = significand(greater) << GUARD_BITS;
            long low = shiftedDown(significand(lesser) << GUARD_BITS, power(greater) - power(lesser));
            long sum = sameSign ? high + low : high - low;
            // A sum that is nothing has the sign + unless both are negative.
            boolean negative = isNegative(greater) && (sameSign || sum != 0);
            return rounded(negative, power(greater) - GUARD_BITS, sum);
        }

        // Bits that fall off leave a 1 in the lowest place: all that rounding has to know of them.
        private static long shiftedDown(long v, int places) {
            if (places > 63) {
                return jammed(0, v != 0);
            }
            return jammed(v >>> places, (v & ((1L << places) - 1)) != 0);
        }

        private static long jammed(long v, boolean more) {
            return more ? v | 1 : v;
        }

        // The significand of a number other than 0 with its highest 1 in bit 62.
        private long aligned(long v) {
            return significand(v) << alignment(v);
        }

        private int alignedPower(long v) {
            return power(v) - alignment(v);
        }

        private int alignment(long v) {
            return leadingZeros(significand(v)) - 1;
        }

        // The upper 64 of the 128 bits of a * b, neither of them negative.
        private static long highProduct(long a, long b) {
            long aHigh = a >>> 32;
            long aLow = a & LOW_32;
            long bHigh = b >>> 32;
            long bLow = b & LOW_32;
            long first = aHigh * bLow + (aLow * bLow >>> 32);
            long second = aLow * bHigh + (first & LOW_32);
            return aHigh * bHigh + (first >>> 32) + (second >>> 32);
        }

        private static long dividedSignificands(long dividend, long divisor) {
            // Of 63 bits the lowest 10 are 0, and the remainders need their room.
            long by = divisor >>> CHUNK_BITS;
            if (by == 0) {
                return 0;
            }
            long rest = dividend >>> CHUNK_BITS;
            long quotient = rest / by;
            rest %= by;
            for (int i = 0; i < QUOTIENT_CHUNKS; i++) {
                rest <<= CHUNK_BITS;
                quotient = quotient << CHUNK_BITS | rest / by;
                rest %= by;
            }
            return jammed(quotient, rest != 0);
        }

        // The number nearest to significand * 2^power, of two the even one; significand is not negative.
        private long rounded(boolean negative, int power, long significand) {
            if (significand == 0) {
                return signed(negative, 0);
            }
            int up = leadingZeros(significand) - 1;
            long aligned = significand << up;
            int spare = 62 - fractionBits;
            int exponent = power - up + spare - lowestPower + 1;
            if (exponent >= topExponent) {
                return signed(negative, infinity);
            }
            int dropped = exponent < 1 ? spare + 1 - exponent : spare;
            if (dropped > 63) {
                return signed(negative, 0);
            }
            // The leading 1 of a significand that has one adds the 1 that is missing from the exponent,
            // and a carry out of the significand goes the same way, up to infinity.
            long base = (long) (Math.max(exponent, 1) - 1) << fractionBits;
            return signed(negative, base + nearest(aligned, dropped));
        }

        private static long nearest(long v, int dropped) {
            long kept = v >>> dropped;
            long rest = v & ((1L << dropped) - 1);
            long half = 1L << (dropped - 1);
            boolean up = rest > half || rest == half && (kept & 1) == 1;
            return up ? kept + 1 : kept;
        }
    }

    /** Finds the decimal that the text of a number shows: digits times ten to the power. */
    private static final class ShortestDecimal {
        private static final int FEWEST_DIGITS = 2;
        // So many digits tell every double from its neighbours.
        private static final int MOST_DIGITS = 17;
        private static final long TEN_TO_18 = 1_000_000_000_000_000_000L;
        // log10(2) * 2^41, near enough for every power of two that a double has.
        private static final long LOG_FACTOR = 661_971_961_083L;
        private static final int LOG_SHIFT = 41;

        private final BigWhole big;
        private long digits;
        private int power;

        ShortestDecimal() {
            big = new BigWhole();
        }

        long digits() {
            return digits;
        }

        int power() {
            return power;
        }

        /**
         * Looks among whole numbers of 18 or 19 digits: the number is scaled by a power of ten, so that
         * every decimal of at most 17 digits near it becomes a whole one, and so do those halfway.
         */
        void find(long significand, int twos, boolean closerBelow) {
            int highestBit = 63 - leadingZeros(significand) + twos;
            int tens = MOST_DIGITS - (int) (highestBit * LOG_FACTOR >> LOG_SHIFT);
            boolean even = (significand & 1) == 0;
            // Quarters of the last place tell the ends of what is read as this number; an end itself,
            // halfway to a neighbour, is read as the even one of the two.
            long quarters = significand * 4;
            long first = big.floor(quarters - (closerBelow ? 1 : 2), twos - 2, tens);
            if (!big.isExact() || !even) {
                first++;
            }
            long last = big.floor(quarters + 2, twos - 2, tens);
            if (big.isExact() && !even) {
                last--;
            }
            long whole = big.floor(quarters, twos - 2, tens);
            digits = fewestDigits(whole, big.isExact(), first, last);
            power = -tens;
            dropZeros();
        }

        private static long fewestDigits(long whole, boolean exact, long first, long last) {
            long unit = whole < TEN_TO_18 ? TEN_TO_18 / 100 : TEN_TO_18 / 10;
            for (int count = FEWEST_DIGITS; count <= MOST_DIGITS; count++) {
                long below = whole / unit * unit;
                long above = below + unit;
                if (below >= first && above <= last) {
                    return nearer(whole, exact, below, unit);
                }
                if (below >= first) {
                    return below;
                }
                if (above <= last) {
                    return above;
                }
                unit = Math.max(unit / 10, 1);
            }
            return whole;
        }

        private static long nearer(long whole, boolean exact, long below, long unit) {
            long middle = below + unit / 2;
            boolean isBelow = whole < middle || whole == middle && exact && below / unit % 2 == 0;
            return isBelow ? below : below + unit;
        }

        private void dropZeros() {
            for (int i = 0; i < 19 && digits % 10 == 0; i++) {
                digits /= 10;
                power++;
            }
        }
    }

    /** A whole number of more than a thousand bits; one row of limbs serves all calls. */
    private static final class BigWhole {
        // The greatest double has 1024 bits, and its quarters two more.
        private static final int LIMBS = 36;
        private static final int LIMB_BITS = 32;
        // The greatest power of five below 2^31: by it a limb is multiplied and divided within a long.
        private static final int FIVES_AT_ONCE = 13;

        private final long[] limbs;
        private int used;
        private boolean lost;

        BigWhole() {
            limbs = new long[LIMBS];
        }

        /** factor * 2^twos * 10^tens without what is behind the point; it has to fit in a long. */
        long floor(long factor, int twos, int tens) {
            int shift = twos + tens;
            lost = false;
            place(factor, Math.max(shift, 0));
            for (int left = tens; left > 0; left -= FIVES_AT_ONCE) {
                multiply(powerOfFive(Math.min(left, FIVES_AT_ONCE)));
            }
            for (int left = -tens; left > 0; left -= FIVES_AT_ONCE) {
                divide(powerOfFive(Math.min(left, FIVES_AT_ONCE)));
            }
            return bitsFrom(Math.max(-shift, 0));
        }

        /** Whether nothing was behind the point at the last floor. */
        boolean isExact() {
            return !lost;
        }

        private static long powerOfFive(int exponent) {
            long result = 1;
            for (int i = 0; i < exponent; i++) {
                result *= 5;
            }
            return result;
        }

        private void place(long v, int shift) {
            used = Math.min((shift + 63) / LIMB_BITS + 1, LIMBS);
            for (int i = 0; i < used; i++) {
                limbs[i] = slice(v, i * LIMB_BITS - shift);
            }
        }

        // The 32 bits of v from the given one on; there are zeros on both sides of v.
        private static long slice(long v, int from) {
            if (from <= -LIMB_BITS || from > 63) {
                return 0;
            }
            return (from < 0 ? v << -from : v >>> from) & LOW_32;
        }

        private void multiply(long by) {
            long carry = 0;
            for (int i = 0; i < used; i++) {
                long product = limbs[i] * by + carry;
                limbs[i] = product & LOW_32;
                carry = product >>> LIMB_BITS;
            }
            if (carry != 0 && used < LIMBS) {
                limbs[used] = carry;
                used++;
            }
        }

        private void divide(long by) {
            if (by == 0) {
                return;
            }
            long rest = 0;
            for (int i = used - 1; i >= 0; i--) {
                long dividend = rest << LIMB_BITS | limbs[i];
                limbs[i] = dividend / by;
                rest = dividend % by;
            }
            lost = lost || rest != 0;
            while (used > 0 && limbs[used - 1] == 0) {
                used--;
            }
        }

        private long bitsFrom(int shift) {
            long bits = 0;
            for (int i = 0; i < used; i++) {
                int place = i * LIMB_BITS - shift;
                if (place >= 0) {
                    bits |= limbs[i] << place;
                } else if (place > -LIMB_BITS) {
                    bits |= limbs[i] >>> -place;
                    lost = lost || (limbs[i] & ((1L << -place) - 1)) != 0;
                } else {
                    lost = lost || limbs[i] != 0;
                }
            }
            return bits;
        }
    }

    /** The text: what is written into it, and what of it has not been taken yet. */
    private static final class Letters {
        // The longest text is that of a double such as -2.2250738585072014E-308: 24 letters.
        private static final int ROOM = 32;
        private static final int MOST_DIGITS_OF_LONG = 19;
        private static final int LOWEST_PLAIN = -3;
        private static final int LOWEST_ABOVE_PLAIN = 7;

        private final char[] row;
        private int length;
        private int taken;

        Letters() {
            row = new char[ROOM];
        }

        void clear() {
            length = 0;
            taken = 0;
        }

        int count() {
            return length;
        }

        long next(int most) {
            long answer = 0;
            for (int i = 0; i < most && taken < length && taken < ROOM; i++) {
                answer = answer << 8 | row[taken];
                taken++;
            }
            return answer;
        }

        void put(char letter) {
            if (length < ROOM) {
                row[length] = letter;
                length++;
            }
        }

        void put(String word) {
            for (int i = 0; i < word.length(); i++) {
                put(word.charAt(i));
            }
        }

        void putWhole(long v) {
            if (v < 0) {
                put('-');
            }
            // The least long has no positive twin: all digits are made from the negative one.
            putDigits(v < 0 ? v : -v, digitCount(v));
        }

        /** digits * 10^power, in which digits are positive and end in no 0. */
        void putDecimal(long digits, int power) {
            int count = digitCount(digits);
            int exponent = power + count - 1;
            if (exponent >= LOWEST_PLAIN && exponent < LOWEST_ABOVE_PLAIN) {
                putPointed(digits, count, -power);
            } else {
                putPointed(digits, count, count - 1);
                put('E');
                putWhole(exponent);
            }
        }

        private void putPointed(long digits, int count, int behind) {
            if (behind <= 0) {
                putWhole(digits * powerOfTen(-behind));
                put(".0");
            } else if (behind >= count) {
                put("0.");
                putDigits(-digits, behind);
            } else {
                long split = powerOfTen(behind);
                putWhole(digits / split);
                put('.');
                putDigits(-(digits % split), behind);
            }
        }

        private void putDigits(long negative, int count) {
            if (count < 0 || count > ROOM - length) {
                return;
            }
            long rest = negative;
            for (int i = length + count - 1; i >= length; i--) {
                row[i] = (char) ('0' - rest % 10);
                rest /= 10;
            }
            length += count;
        }

        private static int digitCount(long v) {
            int count = 1;
            for (long rest = v / 10; rest != 0 && count < MOST_DIGITS_OF_LONG; rest /= 10) {
                count++;
            }
            return count;
        }

        // At most the 18th power is asked for; it stays above 0, as a divisor has to.
        private static long powerOfTen(int exponent) {
            long result = 1;
            for (int i = 0; i < exponent && i < 18; i++) {
                result *= 10;
            }
            return result;
        }
    }
}

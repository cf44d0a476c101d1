/**
 * Numbers with eleven binary digits and a small exponent, written as patterns of sixteen bits.
 * No state is kept: every answer depends on the arguments alone.
 */
public final class HalfFloat {
    private static final int REFUSED = -1;
    private static final int REFUSED_EXPONENT = 100;
    private static final int REFUSED_FLOOR = 100000;

    private static final int SIGN_BIT = 32768;
    private static final int GREATEST_PATTERN = 65535;
    private static final int FRACTION_BITS = 10;
    private static final int FRACTION_MASK = 1023;
    private static final int LEADING_BIT = 1024;
    private static final int EXPONENT_MASK = 31;
    private static final int NO_NUMBER_EXPONENT = 31;
    private static final int EXPONENT_BIAS = 25;
    private static final int OVERFLOW_PATTERN = 31744;

    /** A number has at most this many binary digits. */
    private static final int KEPT_BITS = 11;
    /** Every number is a multiple of 2^LEAST_SCALE, called a unit below. */
    private static final int LEAST_SCALE = -24;
    private static final int UNIT_BITS = 24;
    private static final long UNITS_IN_ONE = 1L << UNIT_BITS;

    /** Shifts that leave more quotient or root bits than any rounding looks at. */
    private static final int QUOTIENT_SHIFT = 30;
    private static final int DECIMAL_SHIFT = 40;
    private static final int ROOT_SHIFT = 14;
    private static final int HIGHEST_ROOT_BIT = 20;

    private static final int GREATEST_DIGITS = 999999;
    private static final int GREATEST_POWER = 12;

    /** The first decimal digit of 65504 stands at 10^4, that of 2^-24 at 10^-8. */
    private static final int HIGHEST_PLACE = 4;
    private static final int LOWEST_PLACE = -8;
    /** Five decimal digits tell any two numbers of eleven bits apart. */
    private static final int MOST_DIGITS = 5;

    /** A writing (d, x) is handed on as one int: d above, x + PAIR_OFFSET in the lowest bits. */
    private static final int PAIR_BITS = 5;
    private static final int PAIR_MASK = 31;
    private static final int PAIR_OFFSET = 16;

    public HalfFloat() {
    }

    public int add(int a, int b) {
        if (!isNumber(a) || !isNumber(b)) {
            return REFUSED;
        }
        long sum = unitsOf(a) + unitsOf(b);
        boolean negative = sum < 0;
        long amount = negative ? -sum : sum;
        return rounded(amount, LEAST_SCALE, false, negative);
    }

    public int multiply(int a, int b) {
        if (!isNumber(a) || !isNumber(b)) {
            return REFUSED;
        }
        long amount = significandOf(a) * significandOf(b);
        int scale = scaleOf(a) + scaleOf(b);
        boolean negative = isMarkedNegative(a) != isMarkedNegative(b);
        return rounded(amount, scale, false, negative);
    }

    public int divide(int a, int b) {
        if (!isNumber(a) || !isNumber(b)) {
            return REFUSED;
        }
        long divisor = significandOf(b);
        if (divisor == 0) {
            return REFUSED;
        }
        long dividend = significandOf(a) << QUOTIENT_SHIFT;
        long quotient = dividend / divisor;
        boolean more = quotient * divisor != dividend;
        int scale = scaleOf(a) - scaleOf(b) - QUOTIENT_SHIFT;
        boolean negative = isMarkedNegative(a) != isMarkedNegative(b);
        return rounded(quotient, scale, more, negative);
    }

    public int root(int a) {
        if (!isNumber(a) || unitsOf(a) < 0) {
            return REFUSED;
        }
        long amount = significandOf(a);
        int scale = scaleOf(a);
        // Only an even power of two has a root that is a power of two.
        if ((scale & 1) != 0) {
            amount = amount * 2;
            scale = scale - 1;
        }
        long square = amount << (2 * ROOT_SHIFT);
        long whole = wholeRoot(square);
        boolean more = whole * whole != square;
        return rounded(whole, scale / 2 - ROOT_SHIFT, more, false);
    }

    public int parse(int d, int x) {
        if (d < 0 || d > GREATEST_DIGITS || x < -GREATEST_POWER || x > GREATEST_POWER) {
            return REFUSED;
        }
        return roundedDecimal(d, x);
    }

    public int digits(int a) {
        if (!isNumber(a)) {
            return REFUSED;
        }
        if (unitsOf(a) == 0) {
            return 0;
        }
        return writingOf(a & ~SIGN_BIT) >> PAIR_BITS;
    }

    public int exponent(int a) {
        if (!isNumber(a)) {
            return REFUSED_EXPONENT;
        }
        if (unitsOf(a) == 0) {
            return 0;
        }
        return (writingOf(a & ~SIGN_BIT) & PAIR_MASK) - PAIR_OFFSET;
    }

    public int compare(int a, int b) {
        if (!isNumber(a) || !isNumber(b)) {
            return REFUSED;
        }
        long left = unitsOf(a);
        long right = unitsOf(b);
        if (left < right) {
            return 1;
        }
        return left == right ? 2 : 3;
    }

    public int floor(int a) {
        if (!isNumber(a)) {
            return REFUSED_FLOOR;
        }
        // The shift keeps the sign and so goes down, also below 0, where division would go up.
        return (int) (unitsOf(a) >> UNIT_BITS);
    }

    private static boolean isNumber(int a) {
        return a >= 0 && a <= GREATEST_PATTERN && exponentBits(a) != NO_NUMBER_EXPONENT;
    }

    private static int exponentBits(int a) {
        return (a >> FRACTION_BITS) & EXPONENT_MASK;
    }

    /** True for the pattern 32768 too, though it stands for 0. */
    private static boolean isMarkedNegative(int a) {
        return (a & SIGN_BIT) != 0;
    }

    /** The amount of a number is significandOf * 2^scaleOf. */
    private static long significandOf(int a) {
        int fraction = a & FRACTION_MASK;
        return exponentBits(a) == 0 ? fraction : LEADING_BIT + fraction;
    }

    private static int scaleOf(int a) {
        int e = exponentBits(a);
        return e == 0 ? LEAST_SCALE : e - EXPONENT_BIAS;
    }

    /** The number, with its sign, as a multiple of 2^-24: below 2^40 in amount. */
    private static long unitsOf(int a) {
        long units = significandOf(a) << (scaleOf(a) - LEAST_SCALE);
        return isMarkedNegative(a) ? -units : units;
    }

    /**
     * Rounds (amount + f) * 2^scale, where f is 0 or, if more is true, strictly between 0 and 1.
     * With more, amount must reach below the last kept bit, so that f alone never decides a bit.
     */
    private static int rounded(long amount, int scale, boolean more, boolean negative) {
        if (amount == 0) {
            return 0;
        }
        int place = bitLength(amount) - KEPT_BITS + scale;
        if (place < LEAST_SCALE) {
            place = LEAST_SCALE;
        }
        long kept = roundedShift(amount, place - scale, more);
        // Added, not joined: the leading bit of kept counts the exponent up by one, and so does
        // a carry into a twelfth bit.
        long pattern = ((long) (place - LEAST_SCALE) << FRACTION_BITS) + kept;
        if (pattern > OVERFLOW_PATTERN) {
            pattern = OVERFLOW_PATTERN;
        }
        // A number below 0 that rounds to 0 is the pattern 0.
        if (negative && pattern != 0) {
            pattern = pattern + SIGN_BIT;
        }
        return (int) pattern;
    }

    private static int bitLength(long amount) {
        int length = 0;
        for (int i = 0; i < 63; i++) {
            if ((amount >> i) != 0) {
                length = i + 1;
            }
        }
        return length;
    }

    /** (amount + f) / 2^shift to the nearest whole number, of two equally near to the even one. */
    private static long roundedShift(long amount, int shift, boolean more) {
        if (shift <= 0) {
            return amount << -shift;
        }
        long kept = amount >> shift;
        long rest = amount - (kept << shift);
        long half = 1L << (shift - 1);
        boolean aboveHalf = rest > half || (rest == half && more);
        boolean tieAtOdd = rest == half && (kept & 1) != 0;
        return aboveHalf || tieAtOdd ? kept + 1 : kept;
    }

    /** The greatest whole number whose square is not above square, which is below 2^42. */
    private static long wholeRoot(long square) {
        long whole = 0;
        for (int bit = HIGHEST_ROOT_BIT; bit >= 0; bit--) {
            long tried = whole + (1L << bit);
            if (tried * tried <= square) {
                whole = tried;
            }
        }
        return whole;
    }

    /** d * 10^x rounded, for d from 0 to 999999 and x from -12 to 12: all fits a long. */
    private static int roundedDecimal(long d, int x) {
        if (x >= 0) {
            long amount = d * tenTo(x);
            return rounded(amount, 0, false, false);
        }
        long divisor = tenTo(-x);
        long dividend = d << DECIMAL_SHIFT;
        long quotient = wholeQuotient(dividend, divisor);
        boolean more = quotient * divisor != dividend;
        return rounded(quotient, -DECIMAL_SHIFT, more, false);
    }

    /** No divisor handed here is 0, but no call may ever throw: so it is looked at all the same. */
    private static long wholeQuotient(long over, long under) {
        return under > 0 ? over / under : 0;
    }

    /** 10^x for x from 0 to 12. */
    private static long tenTo(int x) {
        long power = 1;
        for (int i = 0; i < GREATEST_POWER; i++) {
            if (i < x) {
                power = power * 10;
            }
        }
        return power;
    }

    /** The writing of a number above 0, as a pair in one int. */
    private static int writingOf(int a) {
        int place = firstDigitPlace(a);
        for (int count = 1; count <= MOST_DIGITS; count++) {
            int x = place - count + 1;
            int d = nearestDigits(a, x);
            // One digit above 9 is a 1 one place higher; with more digits a multiple of 10
            // cannot come, as it would have fitted with fewer.
            if (d == 10) {
                d = 1;
                x = x + 1;
            }
            if (d != 0) {
                return (d << PAIR_BITS) + x + PAIR_OFFSET;
            }
        }
        return 0;
    }

    /** The greatest k for which 10^k is not above the number, which is above 0. */
    private static int firstDigitPlace(int a) {
        long units = unitsOf(a);
        for (int k = HIGHEST_PLACE; k > LOWEST_PLACE; k--) {
            boolean reached = k >= 0
                ? units >= UNITS_IN_ONE * tenTo(k)
                : units * tenTo(-k) >= UNITS_IN_ONE;
            if (reached) {
                return k;
            }
        }
        return LOWEST_PLACE;
    }

    /**
     * The d for which d * 10^x rounds to the number a above 0 and is nearest to it; 0 if none.
     * Only the two neighbours of a / 10^x need a look: rounding never turns the order round.
     */
    private static int nearestDigits(int a, int x) {
        long over = unitsOf(a);
        long under = UNITS_IN_ONE;
        if (x < 0) {
            over = over * tenTo(-x);
        } else {
            under = under * tenTo(x);
        }
        long low = wholeQuotient(over, under);
        long high = low + 1;
        long rest = over - low * under;
        boolean lowFits = roundedDecimal(low, x) == a;
        boolean highFits = roundedDecimal(high, x) == a;
        boolean lowIsNearer = 2 * rest <= under;
        if (lowFits && (lowIsNearer || !highFits)) {
            return (int) low;
        }
        return highFits ? (int) high : 0;
    }
}

import java.math.BigInteger;

/**
 * The document's terms over exact numbers, found by search among all patterns, and so in another
 * way than the program finds them.
 */
final class Oracle {
    static final int NONE = 31744;
    private static final BigInteger HALF_UNITS = BigInteger.ONE.shiftLeft(25);
    private static final long[] UNITS = new long[NONE + 1];

    static {
        for (int a = 0; a < NONE; a++) {
            int e = a / 1024;
            int m = a % 1024;
            UNITS[a] = e == 0 ? m : (1024L + m) * (1L << (e - 1));
        }
        // What would come next; halfway to it, at 65520, the numbers end.
        UNITS[NONE] = 1L << 40;
    }

    /** Tells whether the amount to be rounded is below (-1), at (0) or above (1) h / 2^25. */
    interface Side {
        int of(BigInteger h);
    }

    private Oracle() {
    }

    /** The number of a pattern, times 2^24. */
    static long units(int a) {
        return a < 32768 ? UNITS[a] : -UNITS[a - 32768];
    }

    static BigInteger bigUnits(int a) {
        return BigInteger.valueOf(units(a));
    }

    static int roundedAmount(Side amount) {
        int low = 0;
        int high = NONE;
        while (high - low > 1) {
            int middle = (low + high) / 2;
            if (amount.of(BigInteger.valueOf(2 * UNITS[middle])) >= 0) {
                low = middle;
            } else {
                high = middle;
            }
        }
        int side = amount.of(BigInteger.valueOf(UNITS[low] + UNITS[low + 1]));
        if (side == 0) {
            return low % 2 == 0 ? low : low + 1;
        }
        return side < 0 ? low : low + 1;
    }

    /** over / under rounded; under is not 0. */
    static int rounded(BigInteger over, BigInteger under) {
        BigInteger scaled = over.abs().multiply(HALF_UNITS);
        BigInteger divisor = under.abs();
        int amount = roundedAmount(h -> scaled.compareTo(h.multiply(divisor)));
        boolean negative = over.signum() * under.signum() < 0;
        return negative && amount != 0 ? amount + 32768 : amount;
    }

    static int roundedRoot(int a) {
        BigInteger scaled = bigUnits(a).shiftLeft(26);
        return roundedAmount(h -> scaled.compareTo(h.multiply(h)));
    }

    static int roundedDecimal(int d, int x) {
        BigInteger power = BigInteger.TEN.pow(Math.abs(x));
        BigInteger over = BigInteger.valueOf(d);
        return x < 0 ? rounded(over, power) : rounded(over.multiply(power), BigInteger.ONE);
    }
}

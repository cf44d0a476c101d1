import java.math.BigInteger;

/** Promises 7 and 8, over every pattern: the writings are found by trying all pairs. */
public final class WritingTest {
    private static final int LEAST_X = -14;
    private static final int GREATEST_X = 6;
    private static final int[] DIGITS = new int[Oracle.NONE];
    private static final int[] EXPONENTS = new int[Oracle.NONE];

    /** The distance from d * 10^x to the number a, times 2^24 * 10^14. */
    private static BigInteger distance(int a, int d, int x) {
        BigInteger written = BigInteger.TEN.pow(x - LEAST_X).multiply(BigInteger.valueOf(d)).shiftLeft(24);
        BigInteger due = BigInteger.TEN.pow(-LEAST_X).multiply(Oracle.bigUnits(a));
        return written.subtract(due);
    }

    private static boolean isBetter(int a, int d, int x) {
        BigInteger fresh = distance(a, d, x);
        BigInteger known = distance(a, DIGITS[a], EXPONENTS[a]);
        int side = fresh.abs().compareTo(known.abs());
        return side < 0 || (side == 0 && fresh.compareTo(known) < 0);
    }

    private static void tryPair(int d, int x, int fewest) {
        int a = Oracle.roundedDecimal(d, x);
        if (a == 0 || a == Oracle.NONE) {
            return;
        }
        boolean isFirst = DIGITS[a] == 0;
        boolean isSameLength = DIGITS[a] >= fewest;
        if (isFirst || (isSameLength && isBetter(a, d, x))) {
            DIGITS[a] = d;
            EXPONENTS[a] = x;
        }
    }

    private static void findWritings() {
        for (int fewest = 1; fewest <= 10000; fewest *= 10) {
            for (int d = fewest; d < 10 * fewest; d++) {
                for (int x = LEAST_X; x <= GREATEST_X && d % 10 != 0; x++) {
                    tryPair(d, x, fewest);
                }
            }
        }
    }

    private static void named() {
        Check.due(Calls.half().digits(15360), 1, "d of 1");
        Check.due(Calls.half().exponent(15360), 0, "x of 1");
        Check.due(Calls.half().digits(48128), 1, "d of -1");
        Check.due(Calls.half().exponent(48128), 0, "x of -1");
        Check.due(Calls.half().digits(0), 0, "d of 0");
        Check.due(Calls.half().exponent(0), 0, "x of 0");
        Check.due(Calls.half().digits(32768), 0, "d of -0");
        Check.due(Calls.half().exponent(32768), 0, "x of -0");
        Check.due(Calls.half().digits(1), 6, "d of the least");
        Check.due(Calls.half().exponent(1), -8, "x of the least");
        Check.due(Calls.half().digits(31743), 655, "d of the greatest");
        Check.due(Calls.half().exponent(31743), 2, "x of the greatest");
        Check.due(Calls.half().digits(11878), 1, "d of 0.1, from below");
        Check.due(Calls.half().exponent(11878), -1, "x of 0.1, from below");
    }

    public static void main(String[] args) {
        named();
        findWritings();
        for (int a = 1; a < Oracle.NONE; a++) {
            Check.holds(DIGITS[a] != 0, "a writing was found for " + a);
            Check.due(Calls.half().digits(a), DIGITS[a], "digits", a);
            Check.due(Calls.half().exponent(a), EXPONENTS[a], "exponent", a);
            Check.due(Calls.half().digits(a + 32768), DIGITS[a], "digits", a + 32768);
            Check.due(Calls.half().exponent(a + 32768), EXPONENTS[a], "exponent", a + 32768);
            int parsed = Calls.half().parse(DIGITS[a], EXPONENTS[a]);
            Check.due(parsed, a, "parse of the writing", a);
        }
        for (int a = -70000; a <= 140000; a++) {
            if (!Inputs.isNumber(a)) {
                Check.due(Calls.half().digits(a), -1, "digits", a);
                Check.due(Calls.half().exponent(a), 100, "exponent", a);
            }
        }
        for (int bad : Inputs.REFUSED) {
            Check.due(Calls.half().digits(bad), -1, "digits", bad);
            Check.due(Calls.half().exponent(bad), 100, "exponent", bad);
        }
        Check.finish();
    }
}

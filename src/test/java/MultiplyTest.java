import java.math.BigInteger;

/** Promise 3. */
public final class MultiplyTest {
    private static final BigInteger ONE_IN_SQUARE_UNITS = BigInteger.ONE.shiftLeft(48);

    private static void pair(int a, int b) {
        BigInteger product = Oracle.bigUnits(a).multiply(Oracle.bigUnits(b));
        int want = Oracle.rounded(product, ONE_IN_SQUARE_UNITS);
        Check.due(Calls.half().multiply(a, b), want, "multiply", a, b);
    }

    private static void named() {
        Check.due(Calls.half().multiply(15872, 15872), 16512, "1.5 * 1.5");
        Check.due(Calls.half().multiply(1, 14336), 0, "half of the least, even below");
        Check.due(Calls.half().multiply(3, 14336), 2, "half of three, even above");
        Check.due(Calls.half().multiply(1, 14337), 1, "just above half of the least");
        Check.due(Calls.half().multiply(32769, 14336), 0, "below 0 and rounded to the pattern 0");
        Check.due(Calls.half().multiply(32769, 1), 0, "below 0 and far too small");
        Check.due(Calls.half().multiply(32768, 15360), 0, "-0 * 1");
        Check.due(Calls.half().multiply(0, 48128), 0, "0 * -1");
        Check.due(Calls.half().multiply(32768, 31743), 0, "-0 * the greatest");
        Check.due(Calls.half().multiply(31743, 31743), 31744, "far too great");
        Check.due(Calls.half().multiply(64511, 31743), 64512, "far too great, below 0");
        Check.due(Calls.half().multiply(64511, 64511), 31744, "far too great, twice below 0");
        Check.due(Calls.half().multiply(20544, 26503), 31743, "34 * 1927 = 65518");
        Check.due(Calls.half().multiply(20992, 25941), 31744, "48 * 1365 = 65520");
        Check.due(Calls.half().multiply(53312, 26503), 64511, "-34 * 1927");
        Check.due(Calls.half().multiply(53760, 25941), 64512, "-48 * 1365");
    }

    private static void refused() {
        for (int bad : Inputs.REFUSED) {
            Check.due(Calls.half().multiply(bad, 15360), -1, "multiply", bad, 15360);
            Check.due(Calls.half().multiply(15360, bad), -1, "multiply", 15360, bad);
            Check.due(Calls.half().multiply(0, bad), -1, "multiply", 0, bad);
            Check.due(Calls.half().multiply(bad, 32768), -1, "multiply", bad, 32768);
        }
    }

    public static void main(String[] args) {
        named();
        refused();
        for (int a : Inputs.edges()) {
            for (int b : Inputs.edges()) {
                pair(a, b);
            }
        }
        for (int step = 1; step < 100000; step++) {
            pair(Inputs.spread(step), Inputs.spread(-step));
        }
        Check.finish();
    }
}

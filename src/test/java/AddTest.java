import java.math.BigInteger;

/** Promise 2. */
public final class AddTest {
    private static final BigInteger ONE_IN_UNITS = BigInteger.ONE.shiftLeft(24);

    private static void pair(int a, int b) {
        BigInteger sum = Oracle.bigUnits(a).add(Oracle.bigUnits(b));
        Check.due(Calls.half().add(a, b), Oracle.rounded(sum, ONE_IN_UNITS), "add", a, b);
    }

    private static void named() {
        Check.due(Calls.half().add(15360, 15872), 16640, "1 + 1.5");
        Check.due(Calls.half().add(15360, 5120), 15361, "a whole last digit");
        Check.due(Calls.half().add(15360, 4096), 15360, "half a last digit, even below");
        Check.due(Calls.half().add(15361, 4096), 15362, "half a last digit, even above");
        Check.due(Calls.half().add(15360, 4097), 15361, "just above half a last digit");
        Check.due(Calls.half().add(1023, 1), 1024, "into the first e = 1");
        Check.due(Calls.half().add(1024, 32769), 1023, "back to e = 0");
        Check.due(Calls.half().add(31743, 19455), 31743, "just below 65520");
        Check.due(Calls.half().add(31743, 19456), 31744, "65520");
        Check.due(Calls.half().add(64511, 52223), 64511, "just above -65520");
        Check.due(Calls.half().add(64511, 52224), 64512, "-65520");
        Check.due(Calls.half().add(15360, 48128), 0, "1 - 1");
        Check.due(Calls.half().add(32768, 32768), 0, "-0 - 0 is the pattern 0");
        Check.due(Calls.half().add(32768, 0), 0, "-0 + 0");
        Check.due(Calls.half().add(32768, 32769), 32769, "-0 and the amount nearest 0");
    }

    private static void refused() {
        for (int bad : Inputs.REFUSED) {
            Check.due(Calls.half().add(bad, 15360), -1, "add", bad, 15360);
            Check.due(Calls.half().add(15360, bad), -1, "add", 15360, bad);
            Check.due(Calls.half().add(0, bad), -1, "add", 0, bad);
            for (int other : Inputs.REFUSED) {
                Check.due(Calls.half().add(bad, other), -1, "add", bad, other);
            }
        }
    }

    public static void main(String[] args) {
        named();
        refused();
        for (int a : Inputs.edges()) {
            for (int b : Inputs.edges()) {
                pair(a, b);
            }
        }
        for (int step = 1; step < 100000; step++) {
            pair(Inputs.spread(step), Inputs.spread(-step));
        }
        Check.finish();
    }
}

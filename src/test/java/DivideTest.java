/** Promise 4. */
public final class DivideTest {
    private static void pair(int a, int b) {
        boolean byZero = Oracle.units(b) == 0;
        int want = byZero ? -1 : Oracle.rounded(Oracle.bigUnits(a), Oracle.bigUnits(b));
        Check.due(Calls.half().divide(a, b), want, "divide", a, b);
    }

    private static void named() {
        Check.due(Calls.half().divide(15360, 16896), 13653, "1 / 3");
        Check.due(Calls.half().divide(48128, 16896), 46421, "-1 / 3");
        Check.due(Calls.half().divide(15360, 0), -1, "1 / 0");
        Check.due(Calls.half().divide(15360, 32768), -1, "1 / -0");
        Check.due(Calls.half().divide(0, 0), -1, "0 / 0");
        Check.due(Calls.half().divide(32768, 32768), -1, "-0 / -0");
        Check.due(Calls.half().divide(0, 48128), 0, "0 / -1");
        Check.due(Calls.half().divide(32768, 15360), 0, "-0 / 1");
        Check.due(Calls.half().divide(1, 16384), 0, "half of the least, even below");
        Check.due(Calls.half().divide(32769, 16384), 0, "below 0 and rounded to the pattern 0");
        Check.due(Calls.half().divide(3, 16384), 2, "half of three, even above");
        Check.due(Calls.half().divide(1, 16383), 1, "just above half of the least");
        Check.due(Calls.half().divide(31743, 1), 31744, "far too great");
        Check.due(Calls.half().divide(64511, 1), 64512, "far too great, below 0");
        Check.due(Calls.half().divide(64511, 64511), 15360, "a number by itself");
    }

    private static void refused() {
        for (int bad : Inputs.REFUSED) {
            Check.due(Calls.half().divide(bad, 15360), -1, "divide", bad, 15360);
            Check.due(Calls.half().divide(15360, bad), -1, "divide", 15360, bad);
            Check.due(Calls.half().divide(0, bad), -1, "divide", 0, bad);
            Check.due(Calls.half().divide(bad, 0), -1, "divide", bad, 0);
        }
    }

    public static void main(String[] args) {
        named();
        refused();
        for (int a : Inputs.edges()) {
            for (int b : Inputs.edges()) {
                pair(a, b);
            }
        }
        for (int step = 1; step < 100000; step++) {
            pair(Inputs.spread(step), Inputs.spread(-step));
        }
        Check.finish();
    }
}

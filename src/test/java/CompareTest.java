/** Promise 9. */
public final class CompareTest {
    private static void pair(int a, int b) {
        int want = 2 + Long.compare(Oracle.units(a), Oracle.units(b));
        Check.due(Calls.half().compare(a, b), want, "compare", a, b);
    }

    private static void named() {
        Check.due(Calls.half().compare(15360, 15361), 1, "less");
        Check.due(Calls.half().compare(15360, 15360), 2, "equal");
        Check.due(Calls.half().compare(15361, 15360), 3, "greater");
        Check.due(Calls.half().compare(48129, 48128), 1, "less, both below 0");
        Check.due(Calls.half().compare(0, 32768), 2, "0 and -0");
        Check.due(Calls.half().compare(32768, 0), 2, "-0 and 0");
        Check.due(Calls.half().compare(32768, 1), 1, "-0 and the least");
        Check.due(Calls.half().compare(32768, 32769), 3, "-0 and the least below 0");
        Check.due(Calls.half().compare(64511, 31743), 1, "both ends");
    }

    public static void main(String[] args) {
        named();
        for (int bad : Inputs.REFUSED) {
            Check.due(Calls.half().compare(bad, 15360), -1, "compare", bad, 15360);
            Check.due(Calls.half().compare(15360, bad), -1, "compare", 15360, bad);
            Check.due(Calls.half().compare(bad, bad), -1, "compare", bad, bad);
        }
        for (int a : Inputs.edges()) {
            for (int b : Inputs.edges()) {
                pair(a, b);
            }
        }
        for (int a = 0; a < 65535; a++) {
            if (Inputs.isNumber(a) && Inputs.isNumber(a + 1)) {
                pair(a, a + 1);
                pair(a + 1, a);
                pair(a, a);
                pair(a, a ^ 32768);
            }
        }
        Check.finish();
    }
}

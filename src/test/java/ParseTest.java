/** Promise 6. */
public final class ParseTest {
    /** Has no common factor with 10, so that all last digits come. */
    private static final int STRIDE = 97;

    private static void one(int d, int x) {
        Check.due(Calls.half().parse(d, x), Oracle.roundedDecimal(d, x), "parse", d, x);
    }

    private static void named() {
        Check.due(Calls.half().parse(1, 0), 15360, "1");
        Check.due(Calls.half().parse(15, -1), 15872, "1.5");
        Check.due(Calls.half().parse(0, 0), 0, "0");
        Check.due(Calls.half().parse(0, 12), 0, "0 at 12");
        Check.due(Calls.half().parse(0, -12), 0, "0 at -12");
        Check.due(Calls.half().parse(65504, 0), 31743, "the greatest");
        Check.due(Calls.half().parse(65519, 0), 31743, "65519");
        Check.due(Calls.half().parse(655199, -1), 31743, "65519.9");
        Check.due(Calls.half().parse(65520, 0), 31744, "65520");
        Check.due(Calls.half().parse(655200, -1), 31744, "65520.0");
        Check.due(Calls.half().parse(999999, 12), 31744, "the greatest that is taken");
        Check.due(Calls.half().parse(1, -12), 0, "the least that is taken");
        Check.due(Calls.half().parse(2049, 0), 26624, "halfway, even below");
        Check.due(Calls.half().parse(2051, 0), 26626, "halfway, even above");
        Check.due(Calls.half().parse(298023, -12), 5, "five units, nearly");
        Check.due(Calls.half().parse(29802, -12), 0, "just below half of the least");
        Check.due(Calls.half().parse(29803, -12), 1, "just above half of the least");
    }

    private static void refused() {
        int[] badDigits = {-1, -999999, 1000000, 1000001, Integer.MIN_VALUE, Integer.MAX_VALUE};
        int[] badPowers = {-13, 13, -14, 14, 64, -64, Integer.MIN_VALUE, Integer.MAX_VALUE};
        for (int d : badDigits) {
            for (int x = -14; x <= 14; x++) {
                Check.due(Calls.half().parse(d, x), -1, "parse", d, x);
            }
        }
        for (int x : badPowers) {
            Check.due(Calls.half().parse(0, x), -1, "parse", 0, x);
            Check.due(Calls.half().parse(1, x), -1, "parse", 1, x);
            Check.due(Calls.half().parse(999999, x), -1, "parse", 999999, x);
            Check.due(Calls.half().parse(-1, x), -1, "parse", -1, x);
        }
    }

    public static void main(String[] args) {
        named();
        refused();
        for (int x = -12; x <= 12; x++) {
            for (int d = 0; d <= 999999; d += STRIDE) {
                one(d, x);
            }
            for (int d = 0; d <= 2100; d++) {
                one(d, x);
            }
            one(999999, x);
            one(999998, x);
        }
        // Where sums of two neighbours are whole or end early, the exact halves lie.
        for (int x = -2; x <= 1; x++) {
            for (int d = 2048; d <= 66000; d++) {
                one(d, x);
            }
        }
        Check.finish();
    }
}

/** Promise 10, over every pattern. */
public final class FloorTest {
    private static void named() {
        Check.due(Calls.half().floor(15872), 1, "1.5");
        Check.due(Calls.half().floor(48640), -2, "-1.5");
        Check.due(Calls.half().floor(15360), 1, "1");
        Check.due(Calls.half().floor(48128), -1, "-1");
        Check.due(Calls.half().floor(1), 0, "the least");
        Check.due(Calls.half().floor(32769), -1, "the least below 0");
        Check.due(Calls.half().floor(0), 0, "0");
        Check.due(Calls.half().floor(32768), 0, "-0");
        Check.due(Calls.half().floor(31743), 65504, "the greatest");
        Check.due(Calls.half().floor(64511), -65504, "the greatest amount below 0");
    }

    public static void main(String[] args) {
        named();
        for (int bad : Inputs.REFUSED) {
            Check.due(Calls.half().floor(bad), 100000, "floor", bad);
        }
        for (int a = -70000; a <= 140000; a++) {
            long want = Inputs.isNumber(a) ? Math.floorDiv(Oracle.units(a), 1L << 24) : 100000;
            Check.due(Calls.half().floor(a), want, "floor", a);
        }
        Check.finish();
    }
}

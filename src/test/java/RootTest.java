/** Promise 5, over every pattern. */
public final class RootTest {
    private static void named() {
        Check.due(Calls.half().root(16384), 15784, "root of 2");
        Check.due(Calls.half().root(17408), 16384, "root of 4");
        Check.due(Calls.half().root(1), 3072, "root of the least");
        Check.due(Calls.half().root(31743), 23551, "root of the greatest");
        Check.due(Calls.half().root(0), 0, "root of 0");
        Check.due(Calls.half().root(32768), 0, "root of -0");
        Check.due(Calls.half().root(32769), -1, "root of the least below 0");
        Check.due(Calls.half().root(48128), -1, "root of -1");
    }

    public static void main(String[] args) {
        named();
        for (int bad : Inputs.REFUSED) {
            Check.due(Calls.half().root(bad), -1, "root", bad);
        }
        for (int a = -70000; a <= 140000; a++) {
            boolean refused = !Inputs.isNumber(a) || Oracle.units(a) < 0;
            Check.due(Calls.half().root(a), refused ? -1 : Oracle.roundedRoot(a), "root", a);
        }
        Check.finish();
    }
}

/** Promise 5, over every pattern. */
public final class RootTest {
    private static final HalfFloat HALF = new HalfFloat();

    private static void named() {
        Check.due(HALF.root(16384), 15784, "root of 2");
        Check.due(HALF.root(17408), 16384, "root of 4");
        Check.due(HALF.root(1), 3072, "root of the least");
        Check.due(HALF.root(31743), 23551, "root of the greatest");
        Check.due(HALF.root(0), 0, "root of 0");
        Check.due(HALF.root(32768), 0, "root of -0");
        Check.due(HALF.root(32769), -1, "root of the least below 0");
        Check.due(HALF.root(48128), -1, "root of -1");
    }

    public static void main(String[] args) {
        named();
        for (int bad : Inputs.REFUSED) {
            Check.due(HALF.root(bad), -1, "root", bad);
        }
        for (int a = -70000; a <= 140000; a++) {
            boolean refused = !Inputs.isNumber(a) || Oracle.units(a) < 0;
            Check.due(HALF.root(a), refused ? -1 : Oracle.roundedRoot(a), "root", a);
        }
        Check.finish();
    }
}

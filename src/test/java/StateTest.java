/**
 * Promises 1 and 11: nothing is kept, neither from calls that are answered nor from refused ones,
 * nor from one object to another.
 */
public final class StateTest {
    private static final int CALLS = 9;
    private static final int USED_FOR = 512;

    private static int call(HalfFloat half, int which, int a, int b) {
        switch (which) {
            case 0: return half.add(a, b);
            case 1: return half.multiply(a, b);
            case 2: return half.divide(a, b);
            case 3: return half.root(a);
            case 4: return half.parse(a, b % 13);
            case 5: return half.digits(a);
            case 6: return half.exponent(a);
            case 7: return half.compare(a, b);
            default: return half.floor(a);
        }
    }

    private static int badCall(HalfFloat half, int which, int step) {
        int bad = Inputs.REFUSED[step % Inputs.REFUSED.length];
        return which == 4 ? half.parse(-1 - step, 0) : call(half, which, bad, 15360);
    }

    private static int dueOfBadCall(int which) {
        return which == 6 ? 100 : which == 8 ? 100000 : -1;
    }

    /** Every other call is refused; the rest must answer as a new object does. */
    private static void life(int seed) {
        HalfFloat used = new HalfFloat();
        for (int count = 0; count < USED_FOR; count += 2) {
            int step = seed * USED_FOR + count;
            int which = (count / 2 + seed) % CALLS;
            int a = Inputs.spread(step);
            int b = Inputs.spread(step + 1);
            int badWhich = step % CALLS;
            Check.due(badCall(used, badWhich, step), dueOfBadCall(badWhich), "refused", badWhich, step);
            int want = call(new HalfFloat(), which, a, b);
            Check.due(call(used, which, a, b), want, "call", which, a, b);
        }
    }

    private static void first(int which, int a, int b, int want) {
        Check.due(call(new HalfFloat(), which, a, b), want, "first call", which, a, b);
    }

    public static void main(String[] args) {
        first(0, 15360, 15872, 16640);
        first(1, 15872, 15872, 16512);
        first(2, 15360, 16896, 13653);
        first(3, 16384, 0, 15784);
        first(4, 15, -1, 15872);
        first(5, 13653, 0, 3333);
        first(6, 13653, 0, -4);
        first(7, 15360, 15361, 1);
        first(8, 48640, 0, -2);
        for (int seed = 1; seed <= 200; seed++) {
            life(seed);
        }
        Check.finish();
    }
}

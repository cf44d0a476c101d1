/**
 * Promises 1 and 11: nothing is kept, neither from calls that are answered nor from refused ones,
 * nor from one object to another.
 */
public final class StateTest {
    /** A second argument that the call takes: a pattern, or a power of ten from -12 to 12. */
    private static int second(int which, int step) {
        int b = Inputs.spread(step);
        return which == Calls.PARSE ? b % 25 - 12 : b;
    }

    private static int badCall(HalfFloat half, int which, int step) {
        int bad = Inputs.REFUSED[step % Inputs.REFUSED.length];
        return which == Calls.PARSE ? half.parse(-1 - step, 0) : Calls.answer(half, which, bad, 15360);
    }

    /** Every other call is refused; the rest must answer as a new object does. */
    private static void life(int seed) {
        HalfFloat used = new HalfFloat();
        for (int count = 0; count < Calls.USED_FOR; count += 2) {
            int step = seed * Calls.USED_FOR + count;
            int badWhich = step % Calls.COUNT;
            Check.due(badCall(used, badWhich, step), Calls.refusal(badWhich), "refused", badWhich, step);
            int which = (count / 2 + seed) % Calls.COUNT;
            int a = Inputs.spread(step);
            int b = second(which, step + 1);
            int want = Calls.answer(new HalfFloat(), which, a, b);
            Check.due(Calls.answer(used, which, a, b), want, Calls.name(which), a, b);
        }
    }

    public static void main(String[] args) {
        for (int seed = 1; seed <= 200; seed++) {
            life(seed);
        }
        Check.finish();
    }
}

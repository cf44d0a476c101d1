/** The calls of the public face by number, so that a test can go over all of them. */
final class Calls {
    static final int ADD = 0;
    static final int MULTIPLY = 1;
    static final int DIVIDE = 2;
    static final int ROOT = 3;
    static final int PARSE = 4;
    static final int DIGITS = 5;
    static final int EXPONENT = 6;
    static final int COMPARE = 7;
    static final int FLOOR = 8;
    static final int COUNT = 9;

    /** The calls that an object is used for. */
    static final int USED_FOR = 512;

    private static final String[] NAMES = {
        "add", "multiply", "divide", "root", "parse", "digits", "exponent", "compare", "floor",
    };
    private static final int[] PARTNERS = {15360, 0, 32768, 31743, 64511};

    private static HalfFloat current = new HalfFloat();
    private static int used = 0;

    private Calls() {
    }

    /** An object for one call: a new one after every 512, since what it answers then is free. */
    static HalfFloat half() {
        if (used == USED_FOR) {
            current = new HalfFloat();
            used = 0;
        }
        used++;
        return current;
    }

    /** The second argument is left out where the call takes one alone. */
    static int answer(HalfFloat half, int which, int a, int b) {
        switch (which) {
            case ADD: return half.add(a, b);
            case MULTIPLY: return half.multiply(a, b);
            case DIVIDE: return half.divide(a, b);
            case ROOT: return half.root(a);
            case PARSE: return half.parse(a, b);
            case DIGITS: return half.digits(a);
            case EXPONENT: return half.exponent(a);
            case COMPARE: return half.compare(a, b);
            default: return half.floor(a);
        }
    }

    static int refusal(int which) {
        return which == EXPONENT ? 100 : which == FLOOR ? 100000 : -1;
    }

    static String name(int which) {
        return NAMES[which];
    }

    static boolean takesTwoPatterns(int which) {
        return which == ADD || which == MULTIPLY || which == DIVIDE || which == COMPARE;
    }

    /** Looks at every place of every call where a pattern stands: with bad there, all refuse. */
    static void dueRefused(int bad) {
        for (int which = 0; which < COUNT; which++) {
            if (takesTwoPatterns(which)) {
                for (int partner : PARTNERS) {
                    Check.due(answer(half(), which, bad, partner), -1, NAMES[which], bad, partner);
                    Check.due(answer(half(), which, partner, bad), -1, NAMES[which], partner, bad);
                }
                Check.due(answer(half(), which, bad, bad), -1, NAMES[which], bad, bad);
            } else if (which != PARSE) {
                Check.due(answer(half(), which, bad, 0), refusal(which), NAMES[which], bad);
            }
        }
    }

    /**
     * Looks at the same places with a number there. The answers due are, in this order: a + 1,
     * a * 1, a / 1, 1 / a, the root, d and x of the writing, a compared with 1, the floor.
     */
    static void dueTaken(int a, int... answers) {
        int one = 15360;
        Check.due(half().add(a, one), answers[0], "add", a, one);
        Check.due(half().add(one, a), answers[0], "add", one, a);
        Check.due(half().multiply(a, one), answers[1], "multiply", a, one);
        Check.due(half().multiply(one, a), answers[1], "multiply", one, a);
        Check.due(half().divide(a, one), answers[2], "divide", a, one);
        Check.due(half().divide(one, a), answers[3], "divide", one, a);
        Check.due(half().root(a), answers[4], "root", a);
        Check.due(half().digits(a), answers[5], "digits", a);
        Check.due(half().exponent(a), answers[6], "exponent", a);
        Check.due(half().compare(a, one), answers[7], "compare", a, one);
        Check.due(half().compare(one, a), 4 - answers[7], "compare", one, a);
        Check.due(half().floor(a), answers[8], "floor", a);
    }
}

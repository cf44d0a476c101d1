/** Counts and prints the answers that are not as due. */
final class Check {
    private static final int MOST_PRINTED = 20;
    private static int wrong = 0;
    private static int printed = 0;
    private static long looked = 0;

    private Check() {
    }

    static void due(long got, long want, String call, int... arguments) {
        looked++;
        if (got != want) {
            String list = java.util.Arrays.toString(arguments);
            report(call + list + " answered " + got + ", due is " + want);
        }
    }

    static void holds(boolean condition, String what) {
        looked++;
        if (!condition) {
            report("does not hold: " + what);
        }
    }

    private static void report(String line) {
        wrong++;
        printed++;
        if (printed <= MOST_PRINTED) {
            System.out.println(line);
        }
    }

    /** Runs the test of one sentence of the document; a test that looks at nothing is wrong too. */
    static void sentence(String words, Runnable test) {
        printed = 0;
        int wrongBefore = wrong;
        long lookedBefore = looked;
        test.run();
        if (looked == lookedBefore) {
            wrong++;
        }
        String verdict = wrong == wrongBefore ? "holds" : "BROKEN";
        System.out.println(verdict + ": \"" + words + "\"");
    }

    static void finish() {
        System.out.println(looked + " answers looked at, " + wrong + " not as due");
        if (wrong != 0 || looked == 0) {
            System.exit(1);
        }
    }
}

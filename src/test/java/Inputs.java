/** Arguments that the tests share. */
final class Inputs {
    /** No numbers: out of 0 to 65535, or with e = 31. */
    static final int[] REFUSED = {
        -1, -2, -1024, -15360, -32768, -65536, Integer.MIN_VALUE, Integer.MIN_VALUE + 15360,
        31744, 31745, 32000, 32767, 64512, 64513, 65000, 65535,
        65536, 65537, 65536 + 15360, 70000, 98304, 131072, 1 << 24, Integer.MAX_VALUE,
    };

    private static final int[] FRACTIONS = {0, 1, 2, 3, 511, 512, 513, 682, 1021, 1022, 1023};

    private Inputs() {
    }

    /** Numbers of both signs and every exponent, at the ends and in the middle of each. */
    static int[] edges() {
        int[] edges = new int[2 * 31 * FRACTIONS.length];
        int count = 0;
        for (int sign = 0; sign < 2; sign++) {
            for (int e = 0; e < 31; e++) {
                for (int m : FRACTIONS) {
                    edges[count++] = (sign << 15) + (e << 10) + m;
                }
            }
        }
        return edges;
    }

    /** The same spread of numbers on every run; step picks another one. */
    static int spread(int step) {
        long mixed = step * 0x9E3779B97F4A7C15L;
        mixed = (mixed ^ (mixed >>> 29)) * 0xBF58476D1CE4E5B9L;
        int bits = (int) (mixed >>> 33);
        int e = (bits >>> 11) % 31;
        return ((bits & 1) << 15) + (e << 10) + ((bits >>> 1) & 1023);
    }

    static boolean isNumber(int a) {
        return a >= 0 && a < 65536 && (a & 0x7C00) != 0x7C00;
    }
}

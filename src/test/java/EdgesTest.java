/**
 * Each sentence of the promises that names a boundary has a test of its own, with fixed answers:
 * for the last argument inside and the first outside, on both sides.
 */
public final class EdgesTest {
    /** For each call of Calls: two arguments and the answer due. */
    private static final int[][] ORDINARY = {
        {15360, 15872, 16640}, {15872, 15872, 16512}, {15360, 16896, 13653}, {16384, 0, 15784},
        {15, -1, 15872}, {13653, 0, 3333}, {13653, 0, -4}, {15360, 15361, 1}, {48640, 0, -2},
    };
    /** Every way to be refused: which call, its two arguments. */
    private static final int[][] REFUSED_CALLS = {
        {Calls.ADD, 31744, 15360}, {Calls.ADD, 15360, -1}, {Calls.MULTIPLY, 65536, 15360},
        {Calls.MULTIPLY, 15360, 64512}, {Calls.DIVIDE, 15360, 0}, {Calls.DIVIDE, 15360, 32768},
        {Calls.DIVIDE, 65535, 15360}, {Calls.DIVIDE, 15360, 32767}, {Calls.ROOT, 48128, 0},
        {Calls.ROOT, 31744, 0}, {Calls.PARSE, -1, 0}, {Calls.PARSE, 1000000, 0},
        {Calls.PARSE, 1, -13}, {Calls.PARSE, 1, 13}, {Calls.DIGITS, 31744, 0},
        {Calls.EXPONENT, 64512, 0}, {Calls.COMPARE, 31744, 15360}, {Calls.COMPARE, 15360, 65536},
        {Calls.FLOOR, 64512, 0}, {Calls.FLOOR, -1, 0},
    };

    private static void dueOrdinary(HalfFloat half, int which) {
        int[] row = ORDINARY[which];
        Check.due(Calls.answer(half, which, row[0], row[1]), row[2], Calls.name(which), row[0], row[1]);
    }

    private static void dueRefused(HalfFloat half, int[] call) {
        int answer = Calls.answer(half, call[0], call[1], call[2]);
        Check.due(answer, Calls.refusal(call[0]), Calls.name(call[0]), call[1], call[2]);
    }

    private static void lastCall() {
        for (int last = 0; last < Calls.COUNT; last++) {
            HalfFloat answering = new HalfFloat();
            HalfFloat refusing = new HalfFloat();
            for (int count = 1; count < Calls.USED_FOR; count++) {
                dueOrdinary(answering, count % Calls.COUNT);
                dueRefused(refusing, REFUSED_CALLS[count % REFUSED_CALLS.length]);
            }
            dueOrdinary(answering, last);
            dueOrdinary(refusing, last);
            // What the calls after these answer is free; they only have to come back.
            Calls.answer(answering, last, 15360, 1);
            Calls.answer(refusing, last, 15360, 1);
        }
    }

    private static void nothingIsKept() {
        for (int first = 0; first < Calls.COUNT; first++) {
            dueOrdinary(new HalfFloat(), first);
            for (int second = 0; second < Calls.COUNT; second++) {
                HalfFloat half = new HalfFloat();
                HalfFloat other = new HalfFloat();
                dueOrdinary(half, first);
                dueOrdinary(half, second);
                dueOrdinary(other, second);
                dueOrdinary(half, first);
            }
        }
    }

    private static void sum() {
        Check.due(Calls.half().add(31743, 64511), 0, "the two ends cancel");
        Check.due(Calls.half().add(31743, 1), 31743, "the greatest and the least");
        Check.due(Calls.half().add(31743, 32769), 31743, "the greatest and the least below 0");
        Check.due(Calls.half().add(64511, 1), 64511, "the least of all and the least above 0");
        Check.due(Calls.half().add(30720, 30718), 31743, "32768 + 32736, the greatest");
        Check.due(Calls.half().add(30720, 30719), 31744, "32768 + 32752, that is 65520");
        Check.due(Calls.half().add(31743, 64510), 20480, "65504 - 65472");
        Check.due(Calls.half().add(31743, 19455), 31743, "the last below 65520");
        Check.due(Calls.half().add(31743, 19456), 31744, "65520");
        Check.due(Calls.half().add(31743, 31744), -1, "the first that is no number");
        Check.due(Calls.half().add(-1, 0), -1, "the first below the patterns");
    }

    private static void product() {
        Check.due(Calls.half().multiply(31743, 15360), 31743, "the greatest by 1");
        Check.due(Calls.half().multiply(31743, 15361), 31744, "the greatest by what comes next");
        Check.due(Calls.half().multiply(64511, 15361), 64512, "the same below 0");
        Check.due(Calls.half().multiply(1, 14337), 1, "the first that is not too small");
        Check.due(Calls.half().multiply(1, 14336), 0, "the last that is too small");
        Check.due(Calls.half().multiply(1, 31743), 7167, "the least by the greatest");
        Check.due(Calls.half().multiply(32769, 64511), 7167, "the same, both below 0");
        Check.due(Calls.half().multiply(1024, 15359), 1024, "just below e = 1, rounded up to it");
        Check.due(Calls.half().multiply(1024, 15358), 1023, "into e = 0");
        Check.due(Calls.half().multiply(31744, 0), -1, "no number by 0");
        Check.due(Calls.half().multiply(0, 65536), -1, "0 by what is no pattern");
    }

    private static void divideByZero() {
        int[] dividends = {0, 1, 15360, 31743, 32768, 32769, 48128, 64511};
        for (int a : dividends) {
            Check.due(Calls.half().divide(a, 0), -1, "divide", a, 0);
            Check.due(Calls.half().divide(a, 32768), -1, "divide", a, 32768);
            Check.due(Calls.half().divide(a, -1), -1, "divide", a, -1);
            Check.due(Calls.half().divide(a, 32767), -1, "divide", a, 32767);
        }
        Check.due(Calls.half().divide(31744, 0), -1, "no number by 0");
        // On both sides of 0 the first divisors that are taken.
        Check.due(Calls.half().divide(0, 1), 0, "0 by the least");
        Check.due(Calls.half().divide(0, 32769), 0, "0 by the least below 0");
        Check.due(Calls.half().divide(1, 1), 15360, "the least by itself");
        Check.due(Calls.half().divide(1, 32769), 48128, "the least by the least below 0");
        Check.due(Calls.half().divide(15360, 1), 31744, "1 by the least");
        Check.due(Calls.half().divide(15360, 32769), 64512, "1 by the least below 0");
        Check.due(Calls.half().divide(15360, 31743), 256, "1 by the greatest");
        Check.due(Calls.half().divide(15360, 64511), 33024, "1 by the least of all");
    }

    private static void rootBelowZero() {
        Check.due(Calls.half().root(0), 0, "0");
        Check.due(Calls.half().root(32768), 0, "-0 is not below 0");
        Check.due(Calls.half().root(1), 3072, "the least above 0");
        Check.due(Calls.half().root(31743), 23551, "the greatest");
        Check.due(Calls.half().root(31744), -1, "the first above the numbers");
        Check.due(Calls.half().root(32767), -1, "the last before -0");
        Check.due(Calls.half().root(-1), -1, "the first below the patterns");
        for (int a = 32769; a <= 65536; a++) {
            Check.due(Calls.half().root(a), -1, "root", a);
        }
    }

    private static void parseDigits() {
        int[] outside = {-1, -2, 1000000, 1000001, 1 << 20, Integer.MIN_VALUE, Integer.MAX_VALUE};
        for (int x = -12; x <= 12; x++) {
            Check.due(Calls.half().parse(0, x), 0, "parse", 0, x);
            for (int d : outside) {
                Check.due(Calls.half().parse(d, x), -1, "parse", d, x);
            }
        }
        Check.due(Calls.half().parse(999999, -12), 17, "parse", 999999, -12);
        Check.due(Calls.half().parse(999999, -11), 168, "parse", 999999, -11);
        Check.due(Calls.half().parse(999999, -6), 15360, "parse", 999999, -6);
        Check.due(Calls.half().parse(999999, -1), 31744, "parse", 999999, -1);
        Check.due(Calls.half().parse(999999, 0), 31744, "parse", 999999, 0);
        Check.due(Calls.half().parse(999999, 12), 31744, "parse", 999999, 12);
        Check.due(Calls.half().parse(999998, -12), 17, "parse", 999998, -12);
        Check.due(Calls.half().parse(1, 0), 15360, "parse", 1, 0);
    }

    private static void parsePowers() {
        int[] outside = {-13, -14, 13, 14, -64, 64, Integer.MIN_VALUE, Integer.MAX_VALUE};
        int[] digits = {0, 1, 999999};
        for (int x : outside) {
            for (int d : digits) {
                Check.due(Calls.half().parse(d, x), -1, "parse", d, x);
            }
        }
        Check.due(Calls.half().parse(1, -12), 0, "parse", 1, -12);
        Check.due(Calls.half().parse(59605, -12), 1, "parse", 59605, -12);
        Check.due(Calls.half().parse(1, -8), 0, "parse", 1, -8);
        Check.due(Calls.half().parse(1, -7), 2, "parse", 1, -7);
        Check.due(Calls.half().parse(1, 4), 28898, "parse", 1, 4);
        Check.due(Calls.half().parse(1, 5), 31744, "parse", 1, 5);
        Check.due(Calls.half().parse(1, 11), 31744, "parse", 1, 11);
        Check.due(Calls.half().parse(1, 12), 31744, "parse", 1, 12);
    }

    private static void parseBothOutside() {
        int[] digits = {-1, 1000000, Integer.MIN_VALUE, Integer.MAX_VALUE};
        int[] powers = {-13, 13, Integer.MIN_VALUE, Integer.MAX_VALUE};
        for (int d : digits) {
            for (int x : powers) {
                Check.due(Calls.half().parse(d, x), -1, "parse", d, x);
            }
        }
    }

    private static void digitsOfZero() {
        Check.due(Calls.half().digits(-1), -1, "the first below the patterns");
        Check.due(Calls.half().digits(0), 0, "0");
        Check.due(Calls.half().digits(1), 6, "the least above 0");
        Check.due(Calls.half().digits(31743), 655, "the greatest");
        Check.due(Calls.half().digits(31744), -1, "the first above the numbers");
        Check.due(Calls.half().digits(32767), -1, "the last before -0");
        Check.due(Calls.half().digits(32768), 0, "-0");
        Check.due(Calls.half().digits(32769), 6, "the least amount below 0");
        Check.due(Calls.half().digits(64511), 655, "the greatest amount below 0");
        Check.due(Calls.half().digits(64512), -1, "the first after it");
        Check.due(Calls.half().digits(65535), -1, "the last pattern");
        Check.due(Calls.half().digits(65536), -1, "the first above the patterns");
    }

    private static void exponentOfZero() {
        Check.due(Calls.half().exponent(0), 0, "0");
        Check.due(Calls.half().exponent(32768), 0, "-0");
        Check.due(Calls.half().exponent(1), -8, "the least above 0");
        Check.due(Calls.half().exponent(32769), -8, "the least amount below 0");
        // 0 is an exponent of numbers that are not 0, too.
        Check.due(Calls.half().exponent(15360), 0, "1");
        Check.due(Calls.half().exponent(18560), 0, "9");
        Check.due(Calls.half().exponent(18688), 1, "10");
        Check.due(Calls.half().exponent(31571), 4, "60000");
    }

    private static void exponentRefused() {
        Check.due(Calls.half().exponent(-1), 100, "the first below the patterns");
        Check.due(Calls.half().exponent(31743), 2, "the greatest");
        Check.due(Calls.half().exponent(31744), 100, "the first above the numbers");
        Check.due(Calls.half().exponent(32767), 100, "the last before -0");
        Check.due(Calls.half().exponent(64511), 2, "the greatest amount below 0");
        Check.due(Calls.half().exponent(64512), 100, "the first after it");
        Check.due(Calls.half().exponent(65535), 100, "the last pattern");
        Check.due(Calls.half().exponent(65536), 100, "the first above the patterns");
        Check.due(Calls.half().exponent(Integer.MIN_VALUE), 100, "the least int");
        Check.due(Calls.half().exponent(Integer.MAX_VALUE), 100, "the greatest int");
        for (int a = 0; a < 65536; a++) {
            if (Inputs.isNumber(a)) {
                int x = Calls.half().exponent(a);
                Check.holds(x >= -8 && x <= 4, "x from -8 to 4 for " + a);
            }
        }
    }

    /** The numbers from the least of all to the greatest, each greater than the one before. */
    private static void compareInOrder() {
        int[] ascending = {
            64511, 64510, 48129, 48128, 48127, 33792, 33791, 32770, 32769,
            0, 1, 2, 1023, 1024, 15359, 15360, 15361, 31742, 31743,
        };
        for (int i = 0; i < ascending.length; i++) {
            for (int j = 0; j < ascending.length; j++) {
                int want = i < j ? 1 : i == j ? 2 : 3;
                Check.due(Calls.half().compare(ascending[i], ascending[j]), want, "compare",
                    ascending[i], ascending[j]);
            }
        }
        Check.due(Calls.half().compare(32768, 0), 2, "-0 and 0");
        Check.due(Calls.half().compare(0, 32768), 2, "0 and -0");
        Check.due(Calls.half().compare(32768, 32768), 2, "-0 and -0");
        Check.due(Calls.half().compare(32768, 1), 1, "-0 and the least above 0");
        Check.due(Calls.half().compare(32769, 32768), 1, "the least amount below 0 and -0");
    }

    private static void compareRefused() {
        int[] outside = {-1, 31744, 32767, 64512, 65535, 65536};
        for (int bad : outside) {
            for (int other : outside) {
                Check.due(Calls.half().compare(bad, other), -1, "compare", bad, other);
            }
            Check.due(Calls.half().compare(bad, 0), -1, "compare", bad, 0);
            Check.due(Calls.half().compare(0, bad), -1, "compare", 0, bad);
        }
    }

    private static void floorNotGreater() {
        Check.due(Calls.half().floor(0), 0, "0");
        Check.due(Calls.half().floor(32768), 0, "-0");
        Check.due(Calls.half().floor(1), 0, "the least above 0");
        Check.due(Calls.half().floor(32769), -1, "the least amount below 0");
        Check.due(Calls.half().floor(15359), 0, "just below 1");
        Check.due(Calls.half().floor(15360), 1, "1");
        Check.due(Calls.half().floor(15361), 1, "just above 1");
        Check.due(Calls.half().floor(48127), -1, "just above -1");
        Check.due(Calls.half().floor(48128), -1, "-1");
        Check.due(Calls.half().floor(48129), -2, "just below -1");
        // 1023.5 is the last with a half; from 1024 on all are whole.
        Check.due(Calls.half().floor(25599), 1023, "1023.5");
        Check.due(Calls.half().floor(25600), 1024, "1024");
        Check.due(Calls.half().floor(25601), 1025, "1025");
        Check.due(Calls.half().floor(58367), -1024, "-1023.5");
        Check.due(Calls.half().floor(58368), -1024, "-1024");
        Check.due(Calls.half().floor(58369), -1025, "-1025");
    }

    private static void floorFromTo() {
        Check.due(Calls.half().floor(31742), 65472, "the last but one");
        Check.due(Calls.half().floor(31743), 65504, "the greatest");
        Check.due(Calls.half().floor(31744), 100000, "the first above the numbers");
        Check.due(Calls.half().floor(64510), -65472, "the last but one below 0");
        Check.due(Calls.half().floor(64511), -65504, "the greatest amount below 0");
        Check.due(Calls.half().floor(64512), 100000, "the first after it");
    }

    private static void floorRefused() {
        int[] outside = {
            -1, 31744, 32767, 64512, 65535, 65536, Integer.MIN_VALUE, Integer.MAX_VALUE,
        };
        for (int bad : outside) {
            Check.due(Calls.half().floor(bad), 100000, "floor", bad);
        }
    }

    private static void refusedChangesNothing() {
        for (int[] refused : REFUSED_CALLS) {
            for (int which = 0; which < Calls.COUNT; which++) {
                HalfFloat half = new HalfFloat();
                dueRefused(half, refused);
                dueOrdinary(half, which);
                dueRefused(half, refused);
                dueRefused(half, refused);
                dueOrdinary(half, which);
            }
        }
    }

    public static void main(String[] args) {
        Check.sentence("An object is used for at most 512 calls after it has been made", EdgesTest::lastCall);
        Check.sentence("1: Nothing is kept.", EdgesTest::nothingIsKept);
        Check.sentence("2: The sum of the two numbers, rounded.", EdgesTest::sum);
        Check.sentence("3: The product of the two numbers, rounded.", EdgesTest::product);
        Check.sentence("4: -1 also if b is 0", EdgesTest::divideByZero);
        Check.sentence("5: -1 also if it is below 0", EdgesTest::rootBelowZero);
        Check.sentence("6: for d from 0 to 999999", EdgesTest::parseDigits);
        Check.sentence("6: and x from -12 to 12", EdgesTest::parsePowers);
        Check.sentence("6: -1 if d or x is out of its range", EdgesTest::parseBothOutside);
        Check.sentence("7: 0 if it is 0", EdgesTest::digitsOfZero);
        Check.sentence("8: 0 if it is 0", EdgesTest::exponentOfZero);
        Check.sentence("8: 100 if refused", EdgesTest::exponentRefused);
        Check.sentence("9: 1 if a is less than b, 2 if they are equal, 3 if a is greater",
            EdgesTest::compareInOrder);
        Check.sentence("9: -1", EdgesTest::compareRefused);
        Check.sentence("10: The greatest whole number that is not greater than the number",
            EdgesTest::floorNotGreater);
        Check.sentence("10: (from -65504 to 65504)", EdgesTest::floorFromTo);
        Check.sentence("10: 100000 if refused", EdgesTest::floorRefused);
        Check.sentence("11: a call that is refused changes nothing", EdgesTest::refusedChangesNothing);
        Check.finish();
    }
}

/**
 * Each sentence of 'Terms' that names a boundary has a test of its own, with fixed answers: for the
 * last argument inside and the first outside, on both sides.
 */
public final class TermsTest {
    private static void add(int a, int b, int want) {
        Check.due(Calls.half().add(a, b), want, "add", a, b);
        Check.due(Calls.half().add(b, a), want, "add", b, a);
    }

    private static void multiply(int a, int b, int want) {
        Check.due(Calls.half().multiply(a, b), want, "multiply", a, b);
        Check.due(Calls.half().multiply(b, a), want, "multiply", b, a);
    }

    private static void divide(int a, int b, int want) {
        Check.due(Calls.half().divide(a, b), want, "divide", a, b);
    }

    private static void root(int a, int want) {
        Check.due(Calls.half().root(a), want, "root", a);
    }

    private static void parse(int d, int x, int want) {
        Check.due(Calls.half().parse(d, x), want, "parse", d, x);
    }

    /** A writing is that of the amount, so the sign makes no difference. */
    private static void writing(int a, int d, int x) {
        for (int signed = a; signed <= a + 32768; signed += 32768) {
            Check.due(Calls.half().digits(signed), d, "digits", signed);
            Check.due(Calls.half().exponent(signed), x, "exponent", signed);
        }
    }

    private static void patternsFromTo() {
        Calls.dueTaken(0, 15360, 0, 0, -1, 0, 0, 0, 1, 0);
        Calls.dueRefused(-1);
        // The last of sixteen bits has e = 31; the last that is a number is 64511.
        Calls.dueTaken(64511, 64511, 64511, 64511, 33024, -1, 655, 2, 1, -65504);
        Calls.dueRefused(65535);
        Calls.dueRefused(65536);
        Calls.dueRefused(65537);
        // With the bits above the sixteenth cut off, the first two would be 1 and the third 0.
        Calls.dueRefused(65536 + 15360);
        Calls.dueRefused(15360 - 65536);
        Calls.dueRefused(Integer.MIN_VALUE);
        Calls.dueRefused(Integer.MAX_VALUE);
    }

    private static void smallNumbers() {
        // The least, times 2^15, is 2^-9.
        multiply(1, 30720, 6144);
        divide(1023, 1, 25598);
        divide(33791, 1, 58366);
        add(1, 1, 2);
        add(1022, 1, 1023);
        add(1023, 1, 1024);
        add(33791, 32769, 33792);
        add(1023, 32769, 1022);
        Calls.dueTaken(1, 15360, 1, 1, 31744, 3072, 6, -8, 1, 0);
        Calls.dueTaken(1023, 15360, 1023, 1023, 29697, 8191, 61, -6, 1, 0);
        Calls.dueTaken(33791, 15360, 33791, 33791, 62465, -1, 61, -6, 1, -1);
    }

    private static void otherNumbers() {
        divide(1024, 1, 25600);
        divide(2047, 1, 26623);
        divide(2048, 1, 26624);
        divide(33792, 1, 58368);
        add(1024, 32769, 1023);
        add(2047, 1, 2048);
        Calls.dueTaken(1024, 15360, 1024, 1024, 29696, 8192, 6104, -8, 1, 0);
        Calls.dueTaken(33792, 15360, 33792, 33792, 62464, -1, 6104, -8, 1, -1);
        Check.due(Calls.half().floor(29696), 16384, "floor of the first with e = 29");
        Check.due(Calls.half().floor(30719), 32752, "floor of the last with e = 29");
        Check.due(Calls.half().floor(30720), 32768, "floor of the first with e = 30");
        Check.due(Calls.half().floor(31743), 65504, "floor of the last with e = 30");
        Check.due(Calls.half().floor(63488), -32768, "floor of the first below 0 with e = 30");
    }

    private static void noNumbers() {
        Calls.dueTaken(31743, 31743, 31743, 31743, 256, 23551, 655, 2, 3, 65504);
        Calls.dueTaken(32768, 15360, 0, 0, -1, 0, 0, 0, 1, 0);
        Calls.dueTaken(64511, 64511, 64511, 64511, 33024, -1, 655, 2, 1, -65504);
        for (int m = 0; m < 1024; m++) {
            Calls.dueRefused(31744 + m);
            Calls.dueRefused(64512 + m);
        }
    }

    private static void otherZero() {
        Calls.dueTaken(32768, 15360, 0, 0, -1, 0, 0, 0, 1, 0);
        Calls.dueRefused(32767);
        Calls.dueTaken(32769, 15360, 32769, 32769, 64512, -1, 6, -8, 1, -1);
        Check.due(Calls.half().compare(32768, 0), 2, "compare of -0 and 0");
        Check.due(Calls.half().compare(0, 32768), 2, "compare of 0 and -0");
        for (int which = 0; which < Calls.COUNT; which++) {
            for (int a : Inputs.edges()) {
                if (which == Calls.PARSE) {
                    continue;
                }
                String name = Calls.name(which);
                int asFirst = Calls.answer(Calls.half(), which, 0, a);
                Check.due(Calls.answer(Calls.half(), which, 32768, a), asFirst, name, 32768, a);
                int asSecond = Calls.answer(Calls.half(), which, a, 0);
                Check.due(Calls.answer(Calls.half(), which, a, 32768), asSecond, name, a, 32768);
            }
        }
    }

    private static void zeroAnswered() {
        add(0, 0, 0);
        add(32768, 0, 0);
        add(32768, 32768, 0);
        add(15360, 48128, 0);
        add(1, 32769, 0);
        add(31743, 64511, 0);
        // 0 times and through a number below 0.
        multiply(0, 48128, 0);
        multiply(32768, 15360, 0);
        multiply(32768, 48128, 0);
        multiply(32768, 32768, 0);
        divide(0, 48128, 0);
        divide(32768, 15360, 0);
        divide(32768, 48128, 0);
        // Too small, from above and from below 0; then the first that is not.
        multiply(1, 14336, 0);
        multiply(32769, 14336, 0);
        multiply(1, 47104, 0);
        multiply(32769, 14337, 32769);
        multiply(32769, 1, 0);
        divide(1, 16384, 0);
        divide(32769, 16384, 0);
        divide(1, 49152, 0);
        divide(32769, 16383, 32769);
        divide(32769, 31743, 0);
        root(0, 0);
        root(32768, 0);
        parse(0, 0, 0);
        parse(29802, -12, 0);
        parse(29803, -12, 1);
    }

    private static void greatest() {
        Check.due(Calls.half().floor(31743), 65504, "floor of the greatest");
        Check.due(Calls.half().floor(64511), -65504, "floor of the least of all");
        parse(65504, 0, 31743);
        for (int a = 0; a < 65536; a++) {
            if (Inputs.isNumber(a) && a != 31743) {
                Check.due(Calls.half().compare(31743, a), 3, "compare", 31743, a);
                Check.due(Calls.half().compare(a, 31743), 1, "compare", a, 31743);
            }
        }
    }

    private static void nearest() {
        // 1 and its half steps: 4096 is 2^-11, and 35840 is -2^-12, for the steps below 1 are finer.
        add(15360, 4095, 15360);
        add(15360, 4097, 15361);
        add(15361, 4095, 15361);
        add(15361, 4097, 15362);
        add(15360, 35839, 15360);
        add(15360, 35841, 15359);
        add(48128, 36863, 48128);
        add(48128, 36865, 48129);
        // 2^20 - 1 and 2^20 + 3 times 2^-45, on both sides of half of the least.
        multiply(615, 4777, 0);
        multiply(919, 4213, 1);
        multiply(33383, 4777, 0);
        multiply(33687, 4213, 32769);
        multiply(3, 14335, 1);
        multiply(3, 14337, 2);
        divide(1, 16385, 0);
        divide(1, 16383, 1);
        divide(3, 16385, 1);
        divide(3, 16383, 2);
        // The two quotients that come nearest to a half step.
        divide(15360, 16383, 14337);
        divide(16040, 16381, 15018);
        // Just above a half step, by a rest far behind the digits that are kept.
        divide(1, 2047, 4097);
        divide(1, 1100, 4979);
        divide(2, 3071, 4097);
        divide(4, 7167, 1025);
        divide(32769, 2047, 36865);
        root(593, 7703);
        root(1213, 8283);
        root(15549, 15451);
        root(30882, 23063);
        // The two roots that come nearest to a half step.
        root(15359, 15359);
        root(2895, 9126);
        root(1, 3072);
        root(2, 3496);
        // The decimals that come nearest to a half step, and their neighbours.
        parse(654458, -9, 4444);
        parse(654459, -9, 4445);
        parse(21559, -8, 2832);
        parse(21560, -8, 2833);
        parse(204899, -2, 26624);
        parse(204901, -2, 26625);
        parse(205099, -2, 26625);
        parse(205101, -2, 26626);
    }

    private static void equallyNear() {
        add(15360, 4096, 15360);
        add(15361, 4096, 15362);
        add(15362, 4096, 15362);
        add(15360, 35840, 15360);
        add(15361, 36864, 15360);
        add(48128, 36864, 48128);
        add(48129, 36864, 48130);
        // From m = 1023 the even one has the next e.
        add(16383, 4096, 16384);
        add(49151, 36864, 49152);
        // 3 * 683, 3 * 685 and 3 * 1365 have twelve binary digits.
        multiply(16896, 24918, 26624);
        multiply(16896, 24922, 26628);
        multiply(16896, 25941, 27648);
        multiply(49664, 24922, 59396);
        multiply(1, 14336, 0);
        multiply(3, 14336, 2);
        multiply(5, 14336, 2);
        multiply(2045, 14336, 1022);
        multiply(2047, 14336, 1024);
        multiply(32771, 14336, 32770);
        // A quotient is equally near to two numbers only where e = 0; a root never is.
        divide(1, 16384, 0);
        divide(3, 16384, 2);
        divide(5, 16384, 2);
        divide(2045, 16384, 1022);
        divide(2047, 16384, 1024);
        divide(32771, 16384, 32770);
        divide(34815, 16384, 33792);
        parse(2049, 0, 26624);
        parse(2051, 0, 26626);
        parse(4095, 0, 27648);
        parse(20490, -1, 26624);
        parse(205100, -2, 26626);
        parse(256125, -3, 23552);
        parse(256375, -3, 23554);
        parse(411, 1, 27652);
        parse(417, 1, 27666);
    }

    private static void tooGreat() {
        // 65504 + 15.992.. and 65504 + 16.
        add(31743, 19455, 31743);
        add(31743, 19456, 31744);
        add(64511, 52223, 64511);
        add(64511, 52224, 64512);
        add(31743, 31743, 31744);
        add(64511, 64511, 64512);
        // 65519.875 and 65520, under each pair of signs.
        multiply(22556, 24521, 31743);
        multiply(22544, 24544, 31744);
        multiply(55324, 24521, 64511);
        multiply(55312, 24544, 64512);
        multiply(55324, 57289, 31743);
        multiply(55312, 57312, 31744);
        multiply(31743, 64511, 64512);
        // No quotient lies between 65504 and 65536.
        divide(31743, 15360, 31743);
        divide(31742, 15359, 31743);
        divide(31743, 15359, 31744);
        divide(30720, 14336, 31744);
        divide(64511, 15360, 64511);
        divide(64511, 15359, 64512);
        divide(30720, 47104, 64512);
        divide(64511, 48127, 31744);
        divide(31743, 1, 31744);
        divide(31743, 32769, 64512);
        parse(65519, 0, 31743);
        parse(65520, 0, 31744);
        parse(65521, 0, 31744);
        parse(655199, -1, 31743);
        parse(655200, -1, 31744);
        parse(6551, 1, 31743);
        parse(6552, 1, 31744);
        parse(655, 2, 31743);
        parse(656, 2, 31744);
        parse(6, 4, 31571);
        parse(7, 4, 31744);
        parse(1, 5, 31744);
        parse(999999, 12, 31744);
        root(31743, 23551);
    }

    private static void tooGreatIsNoNumber() {
        Calls.dueRefused(Calls.half().add(31743, 31743));
        Calls.dueRefused(Calls.half().add(64511, 64511));
        Calls.dueRefused(Calls.half().parse(65520, 0));
        Calls.dueRefused(Calls.half().divide(64511, 1));
    }

    private static void noMultipleOfTen() {
        writing(18560, 9, 0);
        writing(18688, 1, 1);
        writing(18816, 11, 0);
        writing(22064, 99, 0);
        writing(22080, 1, 2);
        writing(22096, 101, 0);
        writing(24528, 5, 2);
        writing(25532, 99, 1);
        writing(25552, 1, 3);
        writing(25572, 101, 1);
        writing(28898, 1, 4);
        writing(31571, 6, 4);
        writing(11878, 1, -1);
        for (int a = 1; a < 31744; a++) {
            int d = Calls.half().digits(a);
            Check.holds(d >= 1 && d % 10 != 0, "d of " + a + " is 1 or more, no multiple of 10");
        }
    }

    private static void roundsToTheAmount() {
        for (int amount = 1; amount < 31744; amount++) {
            for (int a = amount; a <= amount + 32768; a += 32768) {
                int d = Calls.half().digits(a);
                int x = Calls.half().exponent(a);
                Check.due(Calls.half().parse(d, x), amount, "parse of the writing of", a);
            }
        }
    }

    private static void fewestDigits() {
        writing(31743, 655, 2);
        writing(31742, 6547, 1);
        // 34000 and 50000 lie halfway, and so belong to the even ones alone.
        writing(30757, 3395, 1);
        writing(30758, 34, 3);
        writing(30759, 3402, 1);
        writing(31257, 4995, 1);
        writing(31258, 5, 4);
        writing(31259, 5002, 1);
        writing(16362, 1979, -3);
        writing(16363, 19795, -4);
        writing(16364, 198, -2);
        writing(1023, 61, -6);
        writing(1024, 6104, -8);
    }

    private static void nearestWriting() {
        // 3 to 8 times 10^-8 all round to the least, 9 times 10^-8 to the next.
        parse(3, -8, 1);
        parse(8, -8, 1);
        parse(9, -8, 2);
        writing(1, 6, -8);
        // 9 * 10^-8 has one digit too, but lies farther off.
        writing(2, 1, -7);
        writing(3, 2, -7);
        // 19791 to 19799 all round to it.
        parse(19791, -4, 16363);
        parse(19799, -4, 16363);
        writing(16363, 19795, -4);
        writing(22529, 1281, -1);
        writing(22531, 1284, -1);
    }

    private static void lesserWriting() {
        parse(1283, -1, 22530);
        writing(22530, 1282, -1);
        parse(1288, -1, 22534);
        writing(22534, 1287, -1);
        parse(5118, -1, 24575);
        writing(24575, 5117, -1);
        writing(19464, 1612, -2);
        writing(21500, 6387, -2);
        writing(16416, 2062, -3);
        writing(18416, 7937, -3);
        writing(12544, 1562, -4);
        writing(15296, 9687, -4);
        writing(10752, 4687, -5);
        writing(8192, 7812, -6);
    }

    private static void refused() {
        for (int bad : Inputs.REFUSED) {
            Calls.dueRefused(bad);
        }
        for (int a = -70000; a <= 140000; a++) {
            int answer = Calls.half().add(a, 0);
            Check.holds((answer == -1) != Inputs.isNumber(a), "add takes numbers alone, " + a);
        }
    }

    public static void main(String[] args) {
        Check.sentence("a PATTERN from 0 to 65535 in sixteen bits", TermsTest::patternsFromTo);
        Check.sentence("(1 - 2s) * m / 2^24 if e = 0", TermsTest::smallNumbers);
        Check.sentence("(1 - 2s) * (1024 + m) * 2^(e - 25) if e is from 1 to 30", TermsTest::otherNumbers);
        Check.sentence("Patterns with e = 31 are no numbers.", TermsTest::noNumbers);
        Check.sentence("A pattern of 32768 stands for 0, as 0 does", TermsTest::otherZero);
        Check.sentence("where 0 is an answer, it is the pattern 0", TermsTest::zeroAnswered);
        Check.sentence("The GREATEST number is 65504 (pattern 31743).", TermsTest::greatest);
        Check.sentence("the number that is nearest to t", TermsTest::nearest);
        Check.sentence("of two equally near the one with the even m", TermsTest::equallyNear);
        Check.sentence("if the amount of t is 65520 or more, the answer is 31744 (for t above 0)"
            + " or 64512 (for t below 0)", TermsTest::tooGreat);
        Check.sentence("patterns that are no numbers", TermsTest::tooGreatIsNoNumber);
        Check.sentence("an int d >= 1 that is no multiple of 10", TermsTest::noMultipleOfTen);
        Check.sentence("such that d * 10^x rounds to the amount of the number", TermsTest::roundsToTheAmount);
        Check.sentence("the one whose d has the fewest decimal digits", TermsTest::fewestDigits);
        Check.sentence("the one for which d * 10^x is nearest to the amount", TermsTest::nearestWriting);
        Check.sentence("of two equally near the lesser", TermsTest::lesserWriting);
        Check.sentence("A call with a pattern that is no number, or not from 0 to 65535, is refused",
            TermsTest::refused);
        Check.finish();
    }
}

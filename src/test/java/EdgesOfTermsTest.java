/** The section 'Terms', sentence by sentence, where it names a boundary: what is wanted, numerals, writing, order, operators. */
public final class EdgesOfTermsTest extends Bench {
    private static final double GREATEST = 1.7976931348623157E308;
    private static final double LEAST = 4.9E-324;
    private static final double ALL_WHOLE = 9007199254740992.0;
    private static final String LONGEST = times("a", 255);

    private EdgesOfTermsTest() {
    }

    public static void main(String[] args) {
        numbersWanted();
        wholeNumbersWanted();
        textsWanted();
        truthsWanted();
        stepsNotFinite();
        onlyOneZero();
        numeralDigits();
        numeralDots();
        numeralSigns();
        numeralReckoned();
        writtenWhole();
        writtenBelowAMillion();
        writtenAboveAMillion();
        writtenSigns();
        orderOfKinds();
        orderOfNumbersAndTruths();
        orderOfTexts();
        operators();
        operatorJoined();
        operatorsByOrder();
        end("EdgesOfTermsTest");
    }

    private static void numbersWanted() {
        sentence("A NUMBER IS WANTED: nothing is 0, a truth 1 or 0, a text its numeral (VALUE if it is none)");
        operator(5, 0, BLANK, BLANK);
        operator(5, 1, true, false);
        operator(5, 0, false, false);
        operator(5, 12, "12", BLANK);
        operator(5, Err.VALUE, "", 1);
        operator(5, Err.VALUE, "12a", 1);
        operator(5, Err.VALUE, 1, "TRUE");
        operator(5, 5, row("2"), column(3));
        operator(5, Err.VALUE, row(2, 3), 1);
        operator(5, Err.VALUE, column(2, 3), 1);
        operator(5, Err.VALUE, 1, table(2, 1, 2, 3, 4));
        operator(5, Err.NAME, row(Err.NAME), 1);
    }

    private static void wholeNumbersWanted() {
        sentence("A WHOLE NUMBER: that, cut off towards 0");
        function(25, 5, 5.999);
        function(25, 0, 0.999);
        function(25, 0, -0.999);
        function(25, Err.NUMBER, -1);
        function(57, "ab", "abc", 2.999);
        function(57, "", "abc", -0.999);
        function(57, Err.VALUE, "abc", -1);
        sentence("the error NUMBER from 2^53 on, either sign");
        function(25, ALL_WHOLE - 1, ALL_WHOLE - 1);
        function(25, Err.NUMBER, ALL_WHOLE);
        function(57, "abc", "abc", ALL_WHOLE - 1);
        function(57, Err.NUMBER, "abc", ALL_WHOLE);
        function(57, Err.NUMBER, "abc", ALL_WHOLE + 2);
        function(57, Err.NUMBER, "abc", GREATEST);
        function(57, Err.VALUE, "abc", 1 - ALL_WHOLE);
        function(57, Err.NUMBER, "abc", -ALL_WHOLE);
        function(57, Err.NUMBER, "abc", -GREATEST);
        function(65, "", "", ALL_WHOLE - 1);
        function(65, Err.NUMBER, "", ALL_WHOLE);
    }

    private static void textsWanted() {
        sentence("A TEXT: nothing is none, a number as it is written, truths TRUE and FALSE.");
        function(64, "", BLANK);
        function(64, "TRUE", true);
        function(64, "FALSE", false);
        function(64, "-0.5", -0.5);
        function(64, "x", row("x"));
        function(64, Err.VALUE, row("x", "y"));
        function(56, 0, BLANK);
        function(56, 15, 999999999999999.0);
        function(56, Err.VALUE, 1e15);
    }

    private static void truthsWanted() {
        sentence("A TRUTH: nothing is FALSE, a number is TRUE when it is not 0");
        function(35, "no", BLANK, "yes", "no");
        function(35, "no", 0, "yes", "no");
        function(35, "no", -0.0, "yes", "no");
        function(35, "yes", LEAST, "yes", "no");
        function(35, "yes", -LEAST, "yes", "no");
        function(35, "yes", -GREATEST, "yes", "no");
        sentence("a text TRUE or FALSE in any letters (VALUE if it is neither)");
        for (String letters : new String[] {"TRUE", "true", "True", "tRuE"}) {
            function(35, "yes", letters, "yes", "no");
        }
        for (String letters : new String[] {"FALSE", "false", "False", "fAlSe"}) {
            function(35, "no", letters, "yes", "no");
        }
        for (String letters : new String[] {"", "T", "TRU", "TRUEE", " TRUE", "TRUE ", "FALS", "FALSES", "1", "0", "YES", "TR?E", "*"}) {
            function(35, Err.VALUE, letters, "yes", "no");
        }
    }

    private static void stepsNotFinite() {
        sentence("as soon as a step is not finite the answer is the error NUMBER");
        double half = GREATEST / 2;
        operator(5, GREATEST, half, half);
        operator(5, Err.NUMBER, GREATEST, half);
        operator(6, -GREATEST, -half, half);
        operator(6, Err.NUMBER, -GREATEST, half);
        operator(3, GREATEST, half, 2);
        operator(3, Err.NUMBER, GREATEST, 1.0000000000000002);
        operator(3, Err.NUMBER, -GREATEST, 1.0000000000000002);
        operator(4, GREATEST, GREATEST, 1);
        operator(4, Err.NUMBER, GREATEST, 0.9999999999999999);
        operator(4, Err.NUMBER, 1, LEAST);
        operator(4, 0, LEAST, 2);
        operator(2, Err.NUMBER, GREATEST, 2);
        operator(0, -GREATEST, GREATEST);
        function(0, Err.NUMBER, GREATEST, GREATEST, -GREATEST, -GREATEST);
        function(0, 0, GREATEST, -GREATEST, GREATEST, -GREATEST);
        function(1, Err.NUMBER, GREATEST, 2, 0);
        function(1, 0, 0, GREATEST, 2);
        function(2, Err.NUMBER, 1.4e154);
        function(2, 1.3e154 * 1.3e154, 1.3e154);
        function(15, Err.NUMBER, row(GREATEST, 1), row(2, 1), row(0, 1));
        function(15, 1, row(0, 1), row(GREATEST, 1), row(2, 1));
    }

    private static void onlyOneZero() {
        sentence("-0 is 0");
        Object[][] of = {{0, 0}, {1, -LEAST}, {3, 0, -1}, {3, -LEAST, LEAST}, {4, 0, -5}, {4, -LEAST, 2}, {5, -0.0, -0.0},
            {6, -0.0, 0}, {6, 5, 5}};
        for (Object[] told : of) {
            Object[] values = java.util.Arrays.copyOfRange(told, 1, told.length);
            operator((Integer) told[0], 0, values);
        }
        Object[][] functions = {{0, -0.0}, {1, -1, 0}, {1, -LEAST, LEAST}, {15, -1, 0}, {4, -0.0}, {19, -0.0}, {20, -0.0},
            {21, -0.0}, {22, -LEAST, 3}, {23, -6, 3}, {23, 6, -3}, {24, -2, 3}, {24, 0, -3}, {29, -0.0}, {31, -0.5, 1},
            {31, 0, -1}, {32, 0, -1}, {33, -0.5}, {34, -0.4}, {33, -0.001, 2}, {34, -49, -2}, {52, -0.0}, {73, "-0"},
            {73, " -0.00% "}, {3, -0.0, -0.0}, {9, -0.0}, {10, row(-0.0), 1}, {11, row(-0.0), 1}, {38, 1, -0.0}};
        for (Object[] told : functions) {
            Object[] values = java.util.Arrays.copyOfRange(told, 1, told.length);
            function((Integer) told[0], 0, values);
        }
    }

    private static void numeral(String letters, Object want) {
        function(73, want, letters);
        operator(5, want, letters, 0);
        function(6, want == Err.VALUE ? 0 : 1, letters);
    }

    private static void numeralDigits() {
        sentence("A NUMERAL: 1 to 15 digits");
        String digits = "";
        for (int many = 1; many <= 15; many++) {
            digits = digits + many % 10;
            double due = Long.parseLong(digits);
            numeral(digits, due);
            numeral("-" + digits + "%", -due / 100);
            numeral("." + digits, due / Math.pow(10, many));
            numeral(digits + ".", due);
            numeral(digits.substring(0, many - 1) + "." + many % 10, due / 10);
        }
        for (String none : new String[] {"", ".", "-", "%", "-.", "-%", ".%", "-.%", "1234567890123456", "0000000000000000",
            ".1234567890123456", "1234567890123456.", "12345678.90123456", "-1234567890123456", "1234567890123456%",
            "0.000000000000000", "00000000000000001", "12345678901234567890"}) {
            numeral(none, Err.VALUE);
        }
        numeral("000000000000000", 0);
        numeral("999999999999999", 999999999999999.0);
        numeral("0.00000000000001", 1 / 1e14);
    }

    private static void numeralDots() {
        sentence("digits with perhaps one dot before, between or behind them");
        numeral("5", 5);
        numeral(".5", 0.5);
        numeral("5.", 5);
        numeral("5.5", 5.5);
        for (String none : new String[] {"..5", "5..", "5..5", ".5.", "5.5.", ".5.5", "5. 5", ". 5", "5 .5", "5,5"}) {
            numeral(none, Err.VALUE);
        }
    }

    private static void numeralSigns() {
        sentence("A NUMERAL: spaces, perhaps -, digits, perhaps %, spaces");
        numeral(" 5", 5);
        numeral("5 ", 5);
        numeral("   -5%   ", -0.05);
        numeral(times(" ", 254) + "7", 7);
        numeral("7" + times(" ", 254), 7);
        numeral(times(" ", 120) + "-7%" + times(" ", 120), -0.07);
        for (String none : new String[] {" ", times(" ", 255), "- 5", "--5", "-5-", "5-", "+5", "5%%", "5 %", "%5", "5% %", "-%5",
            "5%-", "5 5", "- 5%", "5e1", "5E1", "a", "5a", "a5", "0x5", "1/2", "(5)", "$5", "5\"", "'5", "5%5"}) {
            numeral(none, Err.VALUE);
        }
    }

    private static void numeralReckoned() {
        sentence("the digits as a whole number, divided by 10^k if k > 0 stand behind the dot, divided by 100 with %");
        numeral("0.1", 1 / 10.0);
        numeral("0.3", 3 / 10.0);
        numeral("1.10", 110 / 100.0);
        numeral("123456789012.345", 123456789012345.0 / 1000);
        numeral("0.7%", 7 / 10.0 / 100);
        numeral("29%", 29 / 100.0);
        numeral("2.9%", 29 / 10.0 / 100);
        numeral("-2.9%", -(29 / 10.0 / 100));
        numeral(".12345678901234", 12345678901234.0 / 1e14);
        numeral("0.123456789012345", Err.VALUE);
        numeral(".123456789012345", 123456789012345.0 / 1e15);
    }

    private static void written(Object told, Object want) {
        operator(7, want, told, BLANK);
        function(64, want, told);
    }

    private static void writtenWhole() {
        sentence("A number x IS WRITTEN: if y is whole and below 10^15 its digits");
        written(0, "0");
        written(-0.0, "0");
        written(1, "1");
        written(9, "9");
        written(10, "10");
        written(100, "100");
        written(999999, "999999");
        written(1000000, "1000000");
        written(999999999999999.0, "999999999999999");
        sentence("otherwise it can't be: VALUE");
        written(1e15, Err.VALUE);
        written(-1e15, Err.VALUE);
        written(1000000000000000.5, Err.VALUE);
        written(-1000000000000000.5, Err.VALUE);
        written(1000000000000001.0, Err.VALUE);
        written(ALL_WHOLE, Err.VALUE);
        written(GREATEST, Err.VALUE);
        written(-GREATEST, Err.VALUE);
    }

    private static void writtenBelowAMillion() {
        sentence("otherwise, below 10^6, of the whole part of y * 10^9 + 0.5 all digits (0 before them up to ten)");
        written(LEAST, "0");
        written(0.00000000049, "0");
        written(0.0000000005, "0.000000001");
        written(0.000000001, "0.000000001");
        written(0.0000000015, "0.000000002");
        written(0.00000001, "0.00000001");
        written(0.1, "0.1");
        written(0.999999999, "0.999999999");
        written(0.9999999994, "0.999999999");
        written(1.000000001, "1.000000001");
        written(1.0000000004, "1");
        written(123456.789012345, "123456.789012345");
        written(999999.5, "999999.5");
        written(999999.999999999, "999999.999999999");
        sentence("a dot before the last nine, zeros at the end (and a dot there) left out");
        written(0.5, "0.5");
        written(0.25, "0.25");
        written(10.5, "10.5");
        written(100.000000001, "100.000000001");
        written(0.9999999996, "1");
        written(9.9999999999, "10");
        written(99999.9999999999, "100000");
        written(999999.9999999999, "1000000");
        written(100.0000000001, "100");
    }

    private static void writtenAboveAMillion() {
        sentence("otherwise, below 10^15, the digits of the whole part of y + 0.5");
        written(1000000.25, "1000000");
        written(1000000.4999999999, "1000000");
        written(1000000.5, "1000001");
        written(1000000.000000001, "1000000");
        written(123456789012.75, "123456789013");
        written(999999999999999.25, "999999999999999");
        written(999999999999999.5, "1000000000000000");
        written(999999999999999.875, "1000000000000000");
    }

    private static void writtenSigns() {
        sentence("- if it is below 0 (also if only 0 is written behind it)");
        written(-LEAST, "-0");
        written(-0.00000000049, "-0");
        written(-0.0000000005, "-0.000000001");
        written(-1, "-1");
        written(-0.5, "-0.5");
        written(-9.9999999999, "-10");
        written(-1000000.5, "-1000001");
        written(-999999999999999.0, "-999999999999999");
        written(-999999999999999.5, "-1000000000000000");
    }

    private static void compared(Object first, Object second, int order) {
        operator(8, order == 0, first, second);
        operator(9, order != 0, first, second);
        operator(10, order < 0, first, second);
        operator(11, order > 0, first, second);
        operator(12, order <= 0, first, second);
        operator(13, order >= 0, first, second);
    }

    private static void ordered(Object less, Object more) {
        compared(less, more, -1);
        compared(more, less, 1);
        compared(less, less, 0);
        compared(more, more, 0);
    }

    private static void orderOfKinds() {
        sentence("ORDER: numbers come before texts, texts before truths");
        ordered(GREATEST, "");
        ordered(GREATEST, " ");
        ordered(0, "0");
        ordered(1, "0");
        ordered("~~~", false);
        ordered("TRUE", false);
        ordered("TRUE", true);
        ordered(GREATEST, false);
        ordered(1, true);
        ordered(0, false);
    }

    private static void orderOfNumbersAndTruths() {
        sentence("numbers by size, FALSE before TRUE");
        ordered(-GREATEST, GREATEST);
        ordered(-LEAST, 0);
        ordered(0, LEAST);
        ordered(1, 1.0000000000000002);
        compared(0, -0.0, 0);
        ordered(false, true);
    }

    private static void orderOfTexts() {
        sentence("texts by their characters, small letters as great ones");
        compared("abcxyz", "ABCXYZ", 0);
        compared("[`{@", "[`{@", 0);
        ordered("a", "B");
        ordered("A", "b");
        ordered("z", "[");
        ordered("z", "_");
        ordered("z", "`");
        ordered("@", "a");
        ordered("@", "A");
        ordered("Z", "{");
        ordered(" ", "~");
        ordered("10", "9");
        ordered(times("a", 254) + "b", times("a", 254) + "C");
        sentence("a text before those that go on behind it");
        ordered("", " ");
        ordered("ab", "ABa");
        ordered("ab", "ab ");
        ordered(times("a", 254), LONGEST);
    }

    private static void operators() {
        sentence("0: 0 less a number. 1: a number / 100.");
        operator(0, -7, 7);
        operator(0, 7, "-7");
        operator(1, 0.07, 7);
        operator(1, GREATEST / 100, GREATEST);
        sentence("2 POWER (as function 22)");
        for (double[] told : new double[][] {{2, 1023}, {2, 1024}, {2, -1023}, {2, -1024}, {0, 0}, {0, 1}, {0, -1}, {2, 0.5}}) {
            Counted x = with(told[0], told[1]);
            x.call(22, 2);
            operator(2, read(x, 0), told[0], told[1]);
        }
        sentence("4: / (DIVISION by 0)");
        operator(4, Err.DIVISION, 0, 0);
        operator(4, Err.DIVISION, 1, BLANK);
        operator(4, Err.DIVISION, 1, false);
        operator(4, Err.DIVISION, 1, "0");
        operator(4, Err.DIVISION, 1, -0.0);
        operator(4, 0, 0, LEAST);
        operator(4, Err.NAME, Err.NAME, 0);
        operator(4, Err.NAME, 1, Err.NAME);
    }

    private static void operatorJoined() {
        sentence("7: two texts joined (VALUE above 255)");
        operator(7, "", "", "");
        operator(7, LONGEST, LONGEST, "");
        operator(7, LONGEST, "", LONGEST);
        operator(7, LONGEST, times("a", 254), "a");
        operator(7, LONGEST, "a", times("a", 254));
        operator(7, Err.VALUE, LONGEST, "a");
        operator(7, Err.VALUE, "a", LONGEST);
        operator(7, Err.VALUE, times("a", 128), times("b", 128));
        operator(7, Err.VALUE, LONGEST, LONGEST);
        operator(7, Err.RING, LONGEST, Err.RING);
    }

    private static void operatorsByOrder() {
        sentence("by order, nothing being 0, no text, or FALSE as the other one is (two of them the same)");
        compared(BLANK, BLANK, 0);
        compared(BLANK, 0, 0);
        compared(0, BLANK, 0);
        compared(BLANK, LEAST, -1);
        compared(BLANK, -LEAST, 1);
        compared(LEAST, BLANK, 1);
        compared(-LEAST, BLANK, -1);
        compared(BLANK, "", 0);
        compared("", BLANK, 0);
        compared(BLANK, " ", -1);
        compared(" ", BLANK, 1);
        compared(BLANK, false, 0);
        compared(false, BLANK, 0);
        compared(BLANK, true, -1);
        compared(true, BLANK, 1);
        compared(row(BLANK), column(false), 0);
        sentence("never an error but those of the two");
        for (int number = 8; number <= 13; number++) {
            operator(number, Err.NULL, Err.NULL, Err.RING);
            operator(number, Err.RING, "a", Err.RING);
            operator(number, Err.RING, BLANK, row(Err.RING));
            operator(number, Err.VALUE, row(1, 1), 1);
            operator(number, Err.VALUE, 1, column(1, 1));
            operator(number, Err.NULL, Err.NULL, column(1, 1));
        }
    }
}

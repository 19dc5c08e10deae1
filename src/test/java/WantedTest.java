/** The terms: what a value becomes where a number, a text or a truth is wanted of it. */
public final class WantedTest extends Bench {
    private static final int VALUE = 73;

    private WantedTest() {
    }

    public static void main(String[] args) {
        numerals();
        noNumerals();
        numeralsAreReckoned();
        wholeNumbersWritten();
        fractionsWritten();
        greatNumbersWritten();
        truthsWanted();
        wholeWanted();
        end("WantedTest");
    }

    private static void numeral(String letters, Object want) {
        function(VALUE, want, letters);
        operator(5, want, letters, 0);
    }

    private static void numerals() {
        numeral("0", 0);
        numeral("-0", 0);
        numeral("7", 7);
        numeral("-7", -7);
        numeral("007", 7);
        numeral("1.5", 1.5);
        numeral(".5", 0.5);
        numeral("5.", 5);
        numeral("-.5", -0.5);
        numeral("  12  ", 12);
        numeral("  -12.25%  ", -0.1225);
        numeral("50%", 0.5);
        numeral(".5%", 0.005);
        numeral("5.%", 0.05);
        numeral("999999999999999", 999999999999999.0);
        numeral("-999999999999999", -999999999999999.0);
        numeral("0.00000000000001", 1.0 / 1e14);
        numeral("000000000000001", 1);
        numeral(".000000000000001", 1.0 / 1e15);
        numeral(times(" ", 240) + "123456789012345", 123456789012345.0);
    }

    private static void noNumerals() {
        String[] none = {"", " ", "-", ".", "%", "-.", ".%", "- 5", "5 %", "1 2", "5%%", "--5", "+5", "1.2.3", "1..2",
            "1e5", "1,000", "0x10", "$5", "5-", "5a", "a5", "1234567890123456", "0000000000000001", "0.123456789012345",
            "%5", "5%-", "-%", "TRUE", "5% 5", ". 5"};
        for (String letters : none) {
            numeral(letters, Err.VALUE);
        }
    }

    private static void numeralsAreReckoned() {
        numeral("0.1", 1 / 10.0);
        numeral("0.7", 7 / 10.0);
        numeral("123.456", 123456 / 1000.0);
        numeral("12.3%", 123 / 10.0 / 100);
        numeral("-33.3%", -(333 / 10.0 / 100));
        numeral("1.00000000000001", 100000000000001.0 / 1e14);
    }

    private static void written(Object told, Object want) {
        operator(7, want, told, "");
        operator(7, want, BLANK, told);
    }

    private static void wholeNumbersWritten() {
        written(0, "0");
        written(5, "5");
        written(-5, "-5");
        written(10, "10");
        written(1234567890, "1234567890");
        written(999999999999999.0, "999999999999999");
        written(-999999999999999.0, "-999999999999999");
        written(1e14, "100000000000000");
        written(1e15, Err.VALUE);
        written(-1e15, Err.VALUE);
        written(1e300, Err.VALUE);
    }

    private static void fractionsWritten() {
        written(0.5, "0.5");
        written(-0.5, "-0.5");
        written(1.25, "1.25");
        written(0.1, "0.1");
        written(100.001, "100.001");
        written(1.0 / 3, "0.333333333");
        written(2.0 / 3, "0.666666667");
        written(-2.0 / 3, "-0.666666667");
        written(0.000000001, "0.000000001");
        written(0.0000000006, "0.000000001");
        written(0.0000000004, "0");
        written(-0.0000000004, "-0");
        written(0.00000000055, "0.000000001");
        written(0.00000000145, "0.000000001");
        written(-4.9E-324, "-0");
        written(9.9999999999, "10");
        written(999999.999, "999999.999");
        written(999999.9999999999, "1000000");
        written(0.123456789123, "0.123456789");
        written(20.5, "20.5");
    }

    private static void greatNumbersWritten() {
        written(1000000.25, "1000000");
        written(1000000.5, "1000001");
        written(-1000000.75, "-1000001");
        written(123456789.4, "123456789");
        written(99999999999999.5, "100000000000000");
        written(999999999999999.25, "999999999999999");
        written(999999999999999.875, "1000000000000000");
        written(1000000000000000.5, Err.VALUE);
    }

    private static void truthsWanted() {
        written(true, "TRUE");
        written(false, "FALSE");
        written(BLANK, "");
        function(42, false, 5);
        function(42, false, -0.1);
        function(42, true, 0);
        function(42, true, BLANK);
        function(42, false, "true");
        function(42, false, "TrUe");
        function(42, true, "FALSE");
        function(42, true, "falsE");
        for (String none : new String[] {"", " TRUE", "TRUE ", "1", "0", "T", "TRUEE", "FALS"}) {
            function(42, Err.VALUE, none);
        }
    }

    private static void wholeWanted() {
        function(71, "A", 65.99);
        function(71, "A", "65.5");
        function(71, Err.VALUE, -65);
        function(57, "", "abc", -0.99);
        function(57, Err.VALUE, "abc", -1);
        function(57, "abc", "abc", 9007199254740991.0);
        function(57, Err.NUMBER, "abc", 9007199254740992.0);
        function(57, Err.NUMBER, "abc", -9007199254740992.0);
        function(57, Err.NUMBER, "abc", 1e300);
        function(57, "a", "abc", true);
        function(57, "", "abc", BLANK);
        function(57, Err.VALUE, "abc", "x");
        function(57, Err.NAME, Err.NAME, 1e300);
        function(57, Err.VALUE, 1e300, 1e300);
    }
}

/** Promise 8: the functions 19 to 34. */
public final class ArithmeticTest extends Bench {
    private static final double GREATEST = 1.7976931348623157E308;
    private static final double ALL_WHOLE = 9007199254740992.0;

    private ArithmeticTest() {
    }

    public static void main(String[] args) {
        wanted();
        f19AbsF20Sign();
        f21Int();
        f22Power();
        f23Mod();
        f24Quotient();
        f25Gcd();
        f26Lcm();
        f27Fact();
        f28Combin();
        f29Even();
        f30Odd();
        f31Ceiling();
        f32Floor();
        f33Trunc();
        f34Round();
        end("ArithmeticTest");
    }

    private static void wanted() {
        for (int number : new int[] {19, 20, 21, 29, 30, 33, 34}) {
            wantsNumber(number, 0, 1);
        }
        for (int number : new int[] {22, 23, 24, 31, 32}) {
            wantsNumber(number, 0, 6, 3);
            wantsNumber(number, 1, 6, 3);
            function(number, Err.NAME, Err.NAME, "x");
            function(number, Err.VALUE, "x", Err.NAME);
        }
        wantsWhole(25, 0, 4, 6);
        wantsWhole(25, 1, 4, 6);
        wantsWhole(26, 1, 4, 6);
        wantsWhole(27, 0, 4);
        wantsWhole(28, 0, 4, 2);
        wantsWhole(28, 1, 4, 2);
        wantsWhole(33, 1, 4, 2);
        wantsWhole(34, 1, 4, 2);
    }

    private static void f19AbsF20Sign() {
        function(19, 5, -5);
        function(19, 5, 5);
        function(19, 0, 0);
        function(19, 2.5, "-2.5");
        function(19, 1, true);
        function(20, -1, -5);
        function(20, 1, 4.9E-324);
        function(20, 0, 0);
        function(20, 0, BLANK);
        function(20, -1, "-50%");
    }

    private static void f21Int() {
        function(21, 2, 2.9);
        function(21, -3, -2.1);
        function(21, -3, -3);
        function(21, 0, 0.5);
        function(21, -1, -0.5);
        function(21, 1e300, 1e300);
        function(21, -1e300, -1e300);
        function(21, 9007199254740991.0, 9007199254740991.0);
        function(21, -2251799813685249.0, -2251799813685248.5);
        function(21, 1, true);
    }

    private static void f22Power() {
        function(22, 9, 3, 2);
        function(22, 1, 3, 0);
        function(22, 1.0 / 9, 3, -2);
        function(22, -8, -2, 3);
        function(22, 16, -2, 4);
        function(22, 0, 0, 5);
        function(22, Err.NUMBER, 0, 0);
        function(22, Err.DIVISION, 0, -5);
        function(22, Err.NUMBER, 0, -0.5);
        function(22, Err.NUMBER, 4, 0.5);
        function(22, Err.NUMBER, 1, 1024);
        function(22, Err.NUMBER, 1, -1024);
        function(22, Err.NUMBER, 1, 1e300);
        function(22, 1, 1, 1023);
        function(22, 1, 1, -1023);
        function(22, -1, -1, 1023);
        function(22, -1, -1, -1023);
        function(22, 1, -1, -2);
        function(22, -1, -1, -1);
        function(22, -0.125, -2, -3);
        function(22, 0.0625, -2, -4);
        function(22, Err.NUMBER, 10, 309);
        function(22, Err.NUMBER, 10, 1000);
        function(22, Err.NUMBER, 10, -400);
        function(22, 0, 0.1, 400);
        function(22, Err.NUMBER, 0.1, -400);
        function(22, Err.NUMBER, 1e-320, -1);
        // The square that would come last is not reckoned.
        function(22, GREATEST, GREATEST, 1);
        double b = 1.1;
        double b4 = (b * b) * (b * b);
        function(22, b * b4, b, 5);
        function(22, 1 / ((b * (b * b)) * b4), b, -7);
        function(22, 9, "3", "2");
    }

    private static void f23Mod() {
        function(23, 1, 7, 3);
        function(23, 2, -7, 3);
        function(23, -2, 7, -3);
        function(23, -1, -7, -3);
        function(23, 0, 6, 3);
        function(23, 5.5 - 2 * 2, 5.5, 2);
        function(23, Err.DIVISION, 5, 0);
        function(23, Err.DIVISION, 0, BLANK);
        function(23, Err.NUMBER, 1e308, 1e-10);
        function(23, 0, 0, 5);
        function(23, 0.3 - 0.1 * 2, 0.3, 0.1);
        function(23, 1e20 - 3 * (1e20 / 3), 1e20, 3);
    }

    private static void f24Quotient() {
        function(24, 2, 7, 3);
        function(24, -2, -7, 3);
        function(24, 0, 2, 3);
        function(24, 0, -2, 3);
        function(24, Err.DIVISION, 2, 0);
        function(24, Err.NUMBER, 1e308, 0.1);
        function(24, 1e20 / 3, 1e20, 3);
        function(24, 2, 0.3, 0.1);
    }

    private static void f25Gcd() {
        function(25, 6, 12, 18);
        function(25, 5, 5);
        function(25, 0, 0);
        function(25, 0, 0, 0);
        function(25, 4, 0, 4);
        function(25, 4, 4, 0);
        function(25, 1, 7, 9, 14);
        function(25, 3, 9.9, 12.9);
        function(25, Err.NUMBER, -1, 5);
        function(25, Err.NUMBER, 5, -1);
        function(25, 5, -0.9, 5);
        function(25, 1, 2971215073.0, 1836311903);
        function(25, 9007199254740991.0, 9007199254740991.0, 0);
        function(25, 2, 2, 4, 6, 8, 10, 12, 14, 16);
        function(25, 1, true, 5);
        function(25, Err.NAME, -5, Err.NAME);
    }

    private static void f26Lcm() {
        function(26, 36, 12, 18);
        function(26, 5, 5);
        function(26, 0, 0);
        function(26, 0, 5, 0);
        function(26, 0, 9007199254740991.0, 9007199254740990.0, 0);
        function(26, Err.NUMBER, -1, 0);
        function(26, Err.NUMBER, 0, -1);
        function(26, 840, 1, 2, 3, 4, 5, 6, 7, 8);
        function(26, 9007199254740991.0, 9007199254740991.0, 1);
        function(26, Err.NUMBER, 9007199254740991.0, 2);
        function(26, Err.NUMBER, 9007199254740991.0, 9007199254740990.0);
        function(26, Err.NUMBER, 94906267, 94906266);
        function(26, Err.NUMBER, 3, 3002399751580331.0);
        function(26, 94906265.0 * 94906264.0, 94906265, 94906264);
        function(26, Err.NUMBER, 4503599627370496.0, 4, 3);
        function(26, 4503599627370496.0, 4503599627370496.0, 1024);
        function(26, Err.RING, 0, Err.RING);
    }

    private static void f27Fact() {
        function(27, 1, 0);
        function(27, 1, 1);
        function(27, 120, 5);
        function(27, 120, 5.9);
        function(27, 2432902008176640000.0, 20);
        double product = 1;
        for (int k = 1; k <= 170; k++) {
            product *= k;
        }
        function(27, product, 170);
        function(27, Err.NUMBER, 171);
        function(27, Err.NUMBER, -1);
        function(27, 1, -0.5);
        function(27, 1, BLANK);
    }

    private static void f28Combin() {
        function(28, 10, 5, 2);
        function(28, 1, 5, 0);
        function(28, 1, 5, 5);
        function(28, 1, 0, 0);
        function(28, 5, 5, 4);
        function(28, 10, 5.9, 2.9);
        function(28, Err.NUMBER, 5, 6);
        function(28, Err.NUMBER, 5, -1);
        function(28, Err.NUMBER, -1, 0);
        function(28, Err.NUMBER, 1001, 1);
        function(28, 1000, 1000, 1);
        double result = 1;
        for (int j = 1; j <= 500; j++) {
            result = result * (500 + j) / j;
        }
        function(28, result, 1000, 500);
    }

    private static void f29Even() {
        function(29, 2, 1);
        function(29, 2, 2);
        function(29, 4, 2.1);
        function(29, 4, 3);
        function(29, -2, -1);
        function(29, -4, -2.5);
        function(29, -2, -2);
        function(29, 0, 0);
        function(29, 2, 0.1);
        function(29, -2, -0.1);
        function(29, ALL_WHOLE, 9007199254740991.0);
        function(29, -ALL_WHOLE, -9007199254740991.0);
        function(29, ALL_WHOLE, ALL_WHOLE);
        function(29, 1e300, 1e300);
        function(29, 2, true);
    }

    private static void f30Odd() {
        function(30, 1, 0);
        function(30, 1, BLANK);
        function(30, 1, 1);
        function(30, 3, 1.1);
        function(30, 3, 2);
        function(30, -1, -1);
        function(30, -3, -1.5);
        function(30, -3, -2);
        function(30, 1, 0.1);
        function(30, -1, -0.1);
        function(30, 9007199254740991.0, 9007199254740990.0);
        function(30, ALL_WHOLE + 1, ALL_WHOLE);
        function(30, ALL_WHOLE + 2 + 1, ALL_WHOLE + 2);
        function(30, -ALL_WHOLE - 2 - 1, -ALL_WHOLE - 2);
        function(30, 1e300, 1e300);
        function(30, 9007199254740991.0, 9007199254740991.0);
    }

    private static void f31Ceiling() {
        function(31, 6, 5, 3);
        function(31, 6, 6, 3);
        function(31, -3, -5, 3);
        function(31, -6, -5, -3);
        function(31, 0, 5, 0);
        function(31, 0, 0, 0);
        function(31, Err.NUMBER, 5, -3);
        function(31, 0, 0, -3);
        function(31, 0, 0, 3);
        function(31, 2.5, 2.1, 0.5);
        function(31, 0, -0.5, 1);
        function(31, Err.NUMBER, 1e308, 1e-5);
        function(31, 1e300, 1, 1e300);
        function(31, Err.NUMBER, GREATEST, 1e308);
        function(31, 1, true, true);
    }

    private static void f32Floor() {
        function(32, 3, 5, 3);
        function(32, 6, 6, 3);
        function(32, -6, -5, 3);
        function(32, -3, -5, -3);
        function(32, Err.DIVISION, 5, 0);
        function(32, Err.DIVISION, -5, 0);
        function(32, 0, 0, 0);
        function(32, 0, BLANK, BLANK);
        function(32, Err.NUMBER, 5, -3);
        function(32, 0, 0, -3);
        function(32, 2, 2.1, 0.5);
        function(32, 0, 0.5, 1);
        function(32, -1, -0.5, 1);
        function(32, Err.NUMBER, 1e308, 1e-5);
        function(32, -1e300, -1, 1e300);
    }

    private static void f33Trunc() {
        function(33, 2, 2.9);
        function(33, -2, -2.9);
        function(33, 0, -0.5);
        function(33, 2.99, 2.999, 2);
        function(33, -2.99, -2.999, 2);
        function(33, 1200, 1299, -2);
        function(33, -1200, -1299, -2);
        function(33, 0, 99, -2);
        function(33, 2.5, 2.5, 9);
        function(33, Err.NUMBER, 2.5, 10);
        function(33, Err.NUMBER, 2.5, -10);
        function(33, 0, 2.5, -9);
        function(33, 2, 2.9, 0);
        function(33, 2.9, 2.99, 1.9);
        function(33, Err.NUMBER, GREATEST, 1);
        function(33, GREATEST, GREATEST);
        function(33, 2, "2.9", BLANK);
        function(33, Err.NAME, Err.NAME, 10);
    }

    private static void f34Round() {
        function(34, 3, 2.5);
        function(34, -3, -2.5);
        function(34, 2, 2.4);
        function(34, 0, 0.4);
        function(34, 0, -0.4);
        function(34, 2.35, 2.345, 2);
        function(34, -2.35, -2.345, 2);
        function(34, 1300, 1250, -2);
        function(34, 1200, 1249, -2);
        function(34, 100, 50, -2);
        function(34, 0, 49, -2);
        function(34, 0.123456789, 0.1234567891, 9);
        function(34, Err.NUMBER, 2.5, 10);
        function(34, Err.NUMBER, 2.5, -10);
        function(34, Err.NUMBER, GREATEST, 9);
        function(34, 1, 0.49999999999999994);
        function(34, 1e9, 5e8, -9);
        function(34, (double) (long) (1.005 * 100 + 0.5) / 100, 1.005, 2);
        function(34, ALL_WHOLE, ALL_WHOLE);
    }
}

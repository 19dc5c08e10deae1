/** The functions 19 to 34, sentence by sentence, where the document names a boundary. */
public final class EdgesOfArithmeticTest extends Bench {
    private static final double GREATEST = 1.7976931348623157E308;
    private static final double LEAST = 4.9E-324;
    private static final double ALL_WHOLE = 9007199254740992.0;

    private EdgesOfArithmeticTest() {
    }

    public static void main(String[] args) {
        absAndSign();
        wholeBelow();
        powerExponents();
        powerOfNought();
        powerSteps();
        modulo();
        quotient();
        divisors();
        multiples();
        factorials();
        combinations();
        even();
        odd();
        ceilingAndFloorOfNought();
        ceilingAndFloorSigns();
        ceiling();
        floor();
        places();
        truncated();
        rounded();
        end("EdgesOfArithmeticTest");
    }

    private static void absAndSign() {
        sentence("19 ABS, 20 SIGN 1 (n)");
        function(19, LEAST, -LEAST);
        function(19, GREATEST, -GREATEST);
        function(19, 0, 0);
        function(20, -1, -LEAST);
        function(20, 1, LEAST);
        function(20, 0, -0.0);
        function(20, -1, -GREATEST);
        function(20, 1, GREATEST);
    }

    private static void wholeBelow() {
        sentence("21 INT: the greatest whole number not above");
        double[][] due = {{0, 0}, {1, 1}, {-1, -1}, {0.999, 0}, {-0.001, -1}, {LEAST, 0}, {-LEAST, -1}, {1.999, 1}, {-1.001, -2},
            {4503599627370495.5, 4503599627370495.0}, {-4503599627370495.5, -4503599627370496.0},
            {ALL_WHOLE - 1, ALL_WHOLE - 1}, {1 - ALL_WHOLE, 1 - ALL_WHOLE}, {ALL_WHOLE, ALL_WHOLE}, {-ALL_WHOLE, -ALL_WHOLE},
            {GREATEST, GREATEST}, {-GREATEST, -GREATEST}, {1e19, 1e19}, {-1e19, -1e19}, {2147483648.5, 2147483648.0},
            {-2147483648.5, -2147483649.0}};
        for (double[] told : due) {
            function(21, told[1], told[0]);
        }
    }

    private static void powerExponents() {
        sentence("22 POWER: the second a whole number (it is not cut off), from -1023 to 1023 (NUMBER if not)");
        for (double e : new double[] {0.5, -0.5, 1.0000000000000002, 2.5, 1023.5, -1023.5, 1024, -1024, 1025, 1e10, -1e10,
            GREATEST, -GREATEST, LEAST, ALL_WHOLE, 4294967296.0}) {
            function(22, Err.NUMBER, 1, e);
            function(22, Err.NUMBER, 0, e);
            operator(2, Err.NUMBER, 2, e);
        }
        function(22, 1, 1, 1023);
        function(22, 1, 1, -1023);
        function(22, -1, -1, 1023);
        function(22, Math.pow(2, 1023), 2, 1023);
        function(22, Math.pow(2, -1023), 2, -1023);
        function(22, 1, 1, 1022);
        function(22, 3, 3, "1.");
    }

    private static void powerOfNought() {
        sentence("0 to the power of 0 too; 0 to one below 0 DIVISION");
        function(22, Err.NUMBER, 0, 0);
        function(22, Err.NUMBER, -0.0, 0);
        function(22, Err.NUMBER, BLANK, BLANK);
        function(22, 0, 0, 1);
        function(22, 0, 0, 1023);
        function(22, Err.DIVISION, 0, -1);
        function(22, Err.DIVISION, 0, -1023);
        function(22, 1, LEAST, 0);
        function(22, 1, GREATEST, 0);
        function(22, 1, -5, 0);
    }

    private static void powerSteps() {
        sentence("while e > 0: r becomes r * b when e is odd, e the half of e, cut off, b becomes b * b when e > 0 then");
        function(22, GREATEST, GREATEST, 1);
        function(22, Err.NUMBER, GREATEST, 2);
        function(22, 1e300, 1e300, 1);
        function(22, Err.NUMBER, 1e160, 2);
        double b = 1.0000001;
        double b2 = b * b;
        double b4 = b2 * b2;
        function(22, b * b2, b, 3);
        function(22, b4, b, 4);
        function(22, b * b2 * b4, b, 7);
        function(22, b2 * b4, b, 6);
        double r = 1;
        double square = 1.01;
        for (int e = 1023; e > 0; e /= 2) {
            r = r * square;
            square = square * square;
        }
        function(22, r, 1.01, 1023);
        sentence("the answer is r, or 1 / r for one below 0 (NUMBER when r is 0 then)");
        function(22, 1 / r, 1.01, -1023);
        function(22, 0, 1e-200, 2);
        function(22, Err.NUMBER, 1e-200, -2);
        function(22, Err.NUMBER, LEAST, -1);
        function(22, Err.NUMBER, 1e200, -2);
        function(22, 1 / GREATEST, GREATEST, -1);
        function(22, -1 / 8.0, -2, -3);
    }

    private static void modulo() {
        sentence("23 MOD: x - y * INT(x / y), DIVISION for y = 0");
        function(23, Err.DIVISION, 5, 0);
        function(23, Err.DIVISION, 0, 0);
        function(23, Err.DIVISION, 5, -0.0);
        function(23, Err.DIVISION, GREATEST, BLANK);
        function(23, 0, 0, LEAST);
        function(23, 0, 5, 5);
        function(23, 4, 4, 5);
        function(23, 1, -4, 5);
        function(23, -1, 4, -5);
        function(23, -4, -4, -5);
        function(23, 0, 5, -5);
        function(23, Err.NUMBER, 1, LEAST);
        function(23, Err.NUMBER, GREATEST, 0.5);
        function(23, Err.NUMBER, 1.7e308, -1e308);
        function(23, -1e308 + 1.7e308, -1e308, 1.7e308);
    }

    private static void quotient() {
        sentence("24 QUOTIENT: x / y cut off, DIVISION for 0");
        function(24, Err.DIVISION, 5, 0);
        function(24, Err.DIVISION, 0, 0);
        function(24, Err.DIVISION, 0, -0.0);
        function(24, 0, 4, 5);
        function(24, 1, 5, 5);
        function(24, -1, -9, 5);
        function(24, -1, 9, -5);
        function(24, -2, 10, -5);
        function(24, ALL_WHOLE + 2, ALL_WHOLE + 2, 1);
        function(24, Err.NUMBER, 1, LEAST);
        function(24, GREATEST, GREATEST, 1);
    }

    private static void divisors() {
        sentence("25 GCD, 26 LCM: NUMBER for one below 0; GCD of 0 alone is 0");
        for (int number = 25; number <= 26; number++) {
            function(number, Err.NUMBER, -1);
            function(number, Err.NUMBER, 0, -1);
            function(number, Err.NUMBER, -1, 0);
            function(number, Err.NUMBER, 1, 2, 3, 4, 5, 6, 7, -8);
            function(number, Err.NUMBER, 1 - ALL_WHOLE);
            function(number, 0, -0.999);
        }
        function(25, 0, 0);
        function(25, 0, 0, 0);
        function(25, 0, 0, 0, 0, 0, 0, 0, 0, 0);
        function(25, 3, 0, 3);
        function(25, 3, 3, 0, 0);
        function(25, 1, 1);
        function(25, ALL_WHOLE - 1, ALL_WHOLE - 1, ALL_WHOLE - 1);
        function(25, 1, ALL_WHOLE - 1, ALL_WHOLE - 2);
        function(25, Err.NUMBER, ALL_WHOLE, 1);
        function(25, 4, 8, 12, 16, 20, 24, 28, 32, 36);
        function(25, 1, 4807526976.0, 2971215073.0);
    }

    private static void multiples() {
        sentence("LCM with any 0 is 0; LCM of 2^53 and above NUMBER");
        function(26, 0, 0);
        function(26, 0, 0, 7);
        function(26, 0, 7, 0);
        function(26, 0, ALL_WHOLE - 1, ALL_WHOLE - 2, 0);
        function(26, 1, 1);
        function(26, ALL_WHOLE - 1, ALL_WHOLE - 1);
        function(26, ALL_WHOLE - 1, 6361, 69431, 20394401);
        function(26, ALL_WHOLE - 1, 20394401, 69431, 6361);
        function(26, ALL_WHOLE - 2, ALL_WHOLE / 2 - 1, 2);
        function(26, Err.NUMBER, ALL_WHOLE / 2, 3);
        function(26, ALL_WHOLE - 67108864, 67108864, 134217727);
        function(26, Err.NUMBER, 3, 3002399751580331.0);
        function(26, Err.NUMBER, 94906267, 94906266);
        function(26, 94906265.0 * 94906266.0, 94906265, 94906266);
        function(26, Err.NUMBER, 94906266, 94906267);
        function(26, ALL_WHOLE / 2, 4503599627370496.0, 2);
        function(26, Err.NUMBER, 128, ALL_WHOLE - 1);
        function(26, Err.NUMBER, ALL_WHOLE - 1, ALL_WHOLE - 2, ALL_WHOLE - 3, ALL_WHOLE - 4);
        function(26, 840, 1, 2, 3, 4, 5, 6, 7, 8);
    }

    private static void factorials() {
        sentence("27 FACT: 1 * 2 * .. in this order; NUMBER below 0 and above 170");
        double product = 1;
        function(27, 1, 0);
        for (int k = 1; k <= 170; k++) {
            product = product * k;
            function(27, product, k);
        }
        for (double n : new double[] {171, 172, -1, -2, 1000, ALL_WHOLE - 1, 1 - ALL_WHOLE, 4294967296.0}) {
            function(27, Err.NUMBER, n);
        }
        function(27, product, 170.999);
        function(27, 1, -0.999);
    }

    private static void combinations() {
        sentence("28 COMBIN: r * (m - k + j), then that / j; NUMBER unless 0 <= k <= m <= 1000");
        function(28, 1, 0, 0);
        function(28, 1, 1, 1);
        function(28, 1, 1, 0);
        function(28, 1, 1000, 0);
        function(28, 1, 1000, 1000);
        function(28, 1000, 1000, 999);
        function(28, 1000, 1000, 1);
        function(28, 252, 10, 5);
        for (double[] told : new double[][] {{0, 1}, {0, -1}, {-1, -1}, {-1, 0}, {5, 6}, {5, -1}, {1001, 0}, {1001, 1001}, {1001, 1},
            {1000, 1001}, {1000, -1}, {4294967296.0, 0}, {5, 4294967296.0}, {ALL_WHOLE - 1, 2}}) {
            function(28, Err.NUMBER, told[0], told[1]);
        }
        for (int[] told : new int[][] {{1000, 500}, {999, 333}, {57, 28}, {1000, 750}, {67, 34}}) {
            double r = 1;
            for (int j = 1; j <= told[1]; j++) {
                r = r * (told[0] - told[1] + j);
                r = r / j;
            }
            function(28, r, told[0], told[1]);
        }
    }

    private static void even() {
        sentence("29 EVEN: the least whole such number that is not nearer to 0, on the same side (one that is such itself)");
        double[][] due = {{0, 0}, {2, 2}, {1, 2}, {3, 4}, {2.0000000000000004, 4}, {1.9999999999999998, 2}, {LEAST, 2}, {0.5, 2}};
        for (double[] told : due) {
            function(29, told[1], told[0]);
            function(29, 0 - told[1], -told[0]);
        }
        sentence("from 2^53 on EVEN is the number itself");
        double[][] great = {{ALL_WHOLE - 2, ALL_WHOLE - 2}, {ALL_WHOLE - 1, ALL_WHOLE}, {ALL_WHOLE, ALL_WHOLE},
            {ALL_WHOLE + 2, ALL_WHOLE + 2}, {GREATEST, GREATEST}, {1e19, 1e19}, {4503599627370495.5, 4503599627370496.0}};
        for (double[] told : great) {
            function(29, told[1], told[0]);
            function(29, -told[1], -told[0]);
        }
    }

    private static void odd() {
        sentence("30 ODD: the least whole such number that is not nearer to 0, on the same side; ODD of 0 is 1");
        function(30, 1, 0);
        function(30, 1, -0.0);
        double[][] due = {{1, 1}, {LEAST, 1}, {0.5, 1}, {1.0000000000000002, 3}, {2, 3}, {2.5, 3}, {3, 3}, {3.0000000000000004, 5}};
        for (double[] told : due) {
            function(30, told[1], told[0]);
            function(30, -told[1], -told[0]);
        }
        sentence("from 2^53 on ODD the number and 1 away from 0, as binary64 has that");
        double[][] great = {{ALL_WHOLE - 2, ALL_WHOLE - 1}, {ALL_WHOLE - 1, ALL_WHOLE - 1}, {ALL_WHOLE, ALL_WHOLE + 1},
            {ALL_WHOLE + 2, ALL_WHOLE + 2 + 1}, {ALL_WHOLE + 6, ALL_WHOLE + 8}, {2 * ALL_WHOLE, 2 * ALL_WHOLE}, {GREATEST, GREATEST},
            {4503599627370495.5, 4503599627370497.0}};
        for (double[] told : great) {
            function(30, told[1], told[0]);
            function(30, -told[1], -told[0]);
        }
    }

    private static void ceilingAndFloorOfNought() {
        sentence("31 CEILING, 32 FLOOR: 0 if the second is 0 (FLOOR: DIVISION, unless the first is 0)");
        for (double x : new double[] {5, -5, LEAST, -LEAST, GREATEST, -GREATEST}) {
            function(31, 0, x, 0);
            function(31, 0, x, -0.0);
            function(32, Err.DIVISION, x, 0);
            function(32, Err.DIVISION, x, -0.0);
        }
        function(31, 0, 0, 0);
        function(32, 0, 0, 0);
        function(32, 0, -0.0, -0.0);
        function(32, 0, BLANK, BLANK);
        function(31, 0, 0, 5);
        function(32, 0, 0, 5);
        function(31, 0, 0, -5);
        function(32, 0, 0, -5);
    }

    private static void ceilingAndFloorSigns() {
        sentence("CEILING, FLOOR: NUMBER if the first is above and the second below 0");
        for (int number = 31; number <= 32; number++) {
            function(number, Err.NUMBER, 5, -3);
            function(number, Err.NUMBER, LEAST, -LEAST);
            function(number, Err.NUMBER, LEAST, -5);
            function(number, Err.NUMBER, 6, -3);
            function(number, Err.NUMBER, GREATEST, -GREATEST);
            function(number, 6, 6, 3);
            function(number, -6, -6, 3);
            function(number, -6, -6, -3);
        }
    }

    private static void ceiling() {
        sentence("CEILING: otherwise y times the least whole number not below x / y");
        function(31, 3, 0.001, 3);
        function(31, 3, 3, 3);
        function(31, 6, 3.0000000000000004, 3);
        function(31, 0, -2.999, 3);
        function(31, -3, -3, 3);
        function(31, -3, -0.001, -3);
        function(31, -6, -3.0000000000000004, -3);
        function(31, 3 * 0.1, 0.3, 0.1);
        function(31, 4 * 0.1, 0.31, 0.1);
        function(31, Err.NUMBER, 1, LEAST);
        function(31, Err.NUMBER, GREATEST, 0.5);
        function(31, Err.NUMBER, GREATEST, 1e308);
        function(31, -1e308, -GREATEST, 1e308);
        function(31, 1e20, 1e20, 1);
    }

    private static void floor() {
        sentence("FLOOR: y times the greatest whole number not above x / y");
        function(32, 0, 2.999, 3);
        function(32, 3, 3, 3);
        function(32, 3, 5.999, 3);
        function(32, -3, -0.001, 3);
        function(32, -3, -3, 3);
        function(32, -6, -3.0000000000000004, 3);
        function(32, 0, -2.999, -3);
        function(32, -3, -5.999, -3);
        function(32, 0.1 * (double) (long) (0.3 / 0.1), 0.3, 0.1);
        function(32, Err.NUMBER, 1, LEAST);
        function(32, Err.NUMBER, -GREATEST, 1e308);
        function(32, 1e308, GREATEST, 1e308);
        function(32, -1e20, -1e20, 1);
    }

    private static void places() {
        sentence("33 TRUNC, 34 ROUND: places p, 0 without, -9 .. 9 (NUMBER if not)");
        for (int number = 33; number <= 34; number++) {
            for (double p : new double[] {10, -10, 11, -11, 100, -100, 4294967296.0, ALL_WHOLE - 1, 1 - ALL_WHOLE}) {
                function(number, Err.NUMBER, 1.5, p);
                function(number, Err.NUMBER, 0, p);
            }
            function(number, 1.5, 1.5, 9);
            function(number, 1.5, 1.5, 9.999);
            function(number, 7e9, 7e9, -9);
            function(number, 7e9, 7e9, -9.999);
            function(number, 0, 0, 9);
            function(number, 0, 0, -9);
            function(number, 5, 5.25);
            function(number, 5, 5.25, 0);
            function(number, 5, 5.25, -0.9);
            function(number, 5, 5.25, 0.9);
            function(number, Err.NUMBER, GREATEST, 1);
            function(number, Err.NUMBER, -GREATEST, 1);
            function(number, 1e300 * 1e8 / 1e8, 1e300, 8);
            function(number, Err.NUMBER, 1e300, 9);
        }
    }

    private static void truncated() {
        sentence("TRUNC: of the size z: z * 10^p for p >= 0, else z / 10^-p; its whole part; / 10^p, or * 10^-p; with the sign");
        function(33, 0, 0.999);
        function(33, 0, -0.999);
        function(33, 1, 1);
        function(33, -1, -1.999);
        function(33, 1.9, 1.999, 1);
        function(33, -1.9, -1.999, 1);
        function(33, 0.000000001, 0.0000000019, 9);
        function(33, 0, 0.0000000009, 9);
        function(33, 1000000000, 1999999999, -9);
        function(33, 0, 999999999, -9);
        function(33, -1000000000, -1000000000, -9);
        function(33, 10, 19, -1);
        function(33, (double) (long) (0.29 * 100) / 100, 0.29, 2);
        function(33, (double) (long) (1.1 * 1000) / 1000, 1.1, 3);
        function(33, GREATEST, GREATEST);
        function(33, ALL_WHOLE + 2, ALL_WHOLE + 2, 0);
        function(33, GREATEST / 10 * 10, GREATEST, -1);
    }

    private static void rounded() {
        sentence("ROUND: of it + 0.5");
        function(34, 0, 0.4999);
        function(34, 1, 0.5);
        function(34, 1, 1.4999);
        function(34, 2, 1.5);
        function(34, -1, -0.5);
        function(34, 0, -0.4999);
        function(34, -2, -1.5);
        function(34, 1, 0.49999999999999994);
        function(34, 0.1, 0.05, 1);
        function(34, 0, 0.0499, 1);
        function(34, 0.000000001, 0.0000000005, 9);
        function(34, 0, 0.0000000004, 9);
        function(34, 1000000000, 500000000, -9);
        function(34, 0, 499999999, -9);
        function(34, -1000000000, -500000000, -9);
        function(34, 10, 5, -1);
        function(34, 0, 4.999, -1);
        function(34, (double) (long) (1.005 * 100 + 0.5) / 100, 1.005, 2);
        function(34, (double) (long) (2.675 * 100 + 0.5) / 100, 2.675, 2);
        function(34, 4503599627370496.0, 4503599627370495.5);
        function(34, ALL_WHOLE - 1 + 0.5, ALL_WHOLE - 1);
        function(34, GREATEST, GREATEST);
    }
}

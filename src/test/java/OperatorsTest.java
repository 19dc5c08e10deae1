/** Promise 7: each operator by its number, and what it throws. */
public final class OperatorsTest extends Bench {
    private OperatorsTest() {
    }

    public static void main(String[] args) {
        operator0Negative();
        operator1Hundredth();
        operator2Power();
        operator3Times();
        operator4Divided();
        operator5Plus();
        operator6Less();
        operator7Joined();
        operator8Equal();
        operator9Unequal();
        operators10To13();
        orderOfTexts();
        orderOfKinds();
        errorsOfTwo();
        arraysOfCells();
        noSuchOperator();
        notSoMany();
        end("OperatorsTest");
    }

    private static void operator0Negative() {
        operator(0, -5, 5);
        operator(0, 5, -5);
        operator(0, 0, 0);
        operator(0, 0, BLANK);
        operator(0, -1, true);
        operator(0, 0, false);
        operator(0, -12.5, " 12.5 ");
        operator(0, 2.5, "-2.5");
        operator(0, Err.VALUE, "x");
        operator(0, Err.RING, Err.RING);
        operator(0, -3, row(3));
        operator(0, Err.VALUE, row(3, 4));
        operator(0, Err.NULL, row(Err.NULL));
        operator(0, -1.7976931348623157E308, 1.7976931348623157E308);
    }

    private static void operator1Hundredth() {
        operator(1, 0.5, 50);
        operator(1, -0.07, -7);
        operator(1, 0, 0);
        operator(1, 0.01, true);
        operator(1, 0, BLANK);
        operator(1, 0.0012, "12%");
        operator(1, 0, 4.9E-324);
        operator(1, 0, -4.9E-324);
        operator(1, Err.VALUE, "");
        operator(1, Err.DIVISION, Err.DIVISION);
        operator(1, Err.VALUE, column(1, 2));
    }

    private static void operator2Power() {
        operator(2, 1024, 2, 10);
        operator(2, 0.125, 2, -3);
        operator(2, 1, 5, 0);
        operator(2, -27, -3, 3);
        operator(2, -1, -1, -1);
        operator(2, 0.25, -2, -2);
        operator(2, Err.NUMBER, 0, 0);
        operator(2, Err.DIVISION, 0, -1);
        operator(2, Err.NUMBER, 2, 0.5);
        operator(2, Err.NUMBER, 2, 1024);
        operator(2, 8.98846567431158E307, 2, 1023);
        operator(2, 8, "2", "3");
        operator(2, Err.NUMBER, BLANK, BLANK);
        operator(2, Err.NAME, Err.NAME, Err.NULL);
    }

    private static void operator3Times() {
        operator(3, 6, 2, 3);
        operator(3, -6, -2, 3);
        operator(3, 0, 0, -3);
        operator(3, 0.1 * 3, 0.1, 3);
        operator(3, Err.NUMBER, 1e308, 10);
        operator(3, Err.NUMBER, -1e308, 10);
        operator(3, 3, true, "3");
        operator(3, 0, BLANK, 7);
        operator(3, Err.VALUE, "a", Err.NAME);
        operator(3, Err.NAME, Err.NAME, "a");
    }

    private static void operator4Divided() {
        operator(4, 2.5, 5, 2);
        operator(4, 1.0 / 3, 1, 3);
        operator(4, Err.DIVISION, 5, 0);
        operator(4, Err.DIVISION, 0, 0);
        operator(4, Err.DIVISION, 5, BLANK);
        operator(4, Err.DIVISION, 5, false);
        operator(4, Err.NUMBER, 1e308, 0.01);
        operator(4, 0, -1e-308, 1e308);
        operator(4, 0, 0, -5);
        operator(4, Err.VALUE, "x", 0);
        operator(4, Err.RING, 0, Err.RING);
    }

    private static void operator5Plus() {
        operator(5, 5, 2, 3);
        operator(5, 0.1 + 0.2, 0.1, 0.2);
        operator(5, 0, 0.5, -0.5);
        operator(5, Err.NUMBER, 1.7976931348623157E308, 1e300);
        operator(5, 1.125, "12.5%", true);
        operator(5, 0, BLANK, BLANK);
        operator(5, Err.VALUE, 1, "1 2");
        operator(5, Err.VALUE, row(1, 2), Err.NAME);
    }

    private static void operator6Less() {
        operator(6, -1, 2, 3);
        operator(6, 0, 3, 3);
        operator(6, Err.NUMBER, -1.7976931348623157E308, 1e300);
        operator(6, -1, BLANK, true);
        operator(6, 10.25, "10.50", ".25");
        operator(6, Err.REFERENCE, 1, Err.REFERENCE);
    }

    private static void operator7Joined() {
        operator(7, "abcd", "ab", "cd");
        operator(7, "", BLANK, "");
        operator(7, "1-24", 1, -24);
        operator(7, "TRUEFALSE", true, false);
        operator(7, "x0.5", "x", 0.5);
        operator(7, times("a", 255), times("a", 200), times("a", 55));
        operator(7, Err.VALUE, times("a", 200), times("a", 56));
        operator(7, Err.VALUE, times("a", 255), "b");
        operator(7, Err.VALUE, 1e15, Err.NAME);
        operator(7, Err.NAME, Err.NAME, 1e15);
        operator(7, "ab", row("a"), column("b"));
        operator(7, Err.VALUE, row("a", "b"), "c");
    }

    private static void operator8Equal() {
        operator(8, true, 1, 1);
        operator(8, false, 1, 2);
        operator(8, true, "abc", "ABC");
        operator(8, false, "abc", "abd");
        operator(8, false, "a*", "abc");
        operator(8, false, 1, "1");
        operator(8, false, 1, true);
        operator(8, true, true, true);
        operator(8, true, BLANK, 0);
        operator(8, true, BLANK, "");
        operator(8, true, BLANK, false);
        operator(8, true, BLANK, BLANK);
        operator(8, true, 0, BLANK);
        operator(8, false, BLANK, 1);
        operator(8, false, BLANK, "a");
        operator(8, false, BLANK, true);
        operator(8, false, 0, "");
        operator(8, false, 0, false);
    }

    private static void operator9Unequal() {
        operator(9, false, 1, 1);
        operator(9, true, 1, 2);
        operator(9, false, "abc", "aBc");
        operator(9, true, "abc", "abcd");
        operator(9, false, BLANK, "");
        operator(9, false, false, BLANK);
        operator(9, true, 0, false);
    }

    private static void compared(Object first, Object second, int order) {
        operator(8, order == 0, first, second);
        operator(9, order != 0, first, second);
        operator(10, order < 0, first, second);
        operator(11, order > 0, first, second);
        operator(12, order <= 0, first, second);
        operator(13, order >= 0, first, second);
    }

    private static void ordered(Object less, Object more) {
        compared(less, more, -1);
        compared(more, less, 1);
        compared(less, less, 0);
    }

    private static void operators10To13() {
        ordered(1, 2);
        ordered(-2, -1);
        ordered(-4.9E-324, 0);
        ordered(1e307, 1e308);
        ordered(false, true);
        compared(0, -0.0, 0);
    }

    private static void orderOfTexts() {
        ordered("a", "b");
        ordered("a", "B");
        ordered("A", "b");
        ordered("ab", "abc");
        ordered("", "a");
        ordered("Z", "_");
        ordered("z", "_");
        ordered("z", "[");
        ordered("@", "a");
        ordered("9", "a");
        ordered("10", "9");
        ordered(" ", "!");
        ordered("z", "{");
        compared("MiXed", "mIxED", 0);
    }

    private static void orderOfKinds() {
        ordered(1e308, "");
        ordered(5, "1");
        ordered("zzz", false);
        ordered(5, false);
        ordered(-1, BLANK);
        ordered(BLANK, 1);
        ordered(BLANK, "a");
        ordered(BLANK, true);
        compared(BLANK, false, 0);
        compared(BLANK, "", 0);
        compared(BLANK, 0, 0);
        compared(BLANK, BLANK, 0);
    }

    private static void errorsOfTwo() {
        for (int number = 2; number <= 13; number++) {
            operator(number, Err.RING, Err.RING, Err.NULL);
            operator(number, Err.NULL, 1, Err.NULL);
            operator(number, Err.NONE, Err.NONE, 1);
            operator(number, Err.VALUE, row(1, 2), Err.NULL);
            operator(number, Err.NULL, row(Err.NULL), row(1, 2));
            operator(number, Err.VALUE, 1, column(1, 2));
        }
    }

    private static void arraysOfCells() {
        operator(8, true, row(3), 3);
        operator(5, 7, column(3), row(4));
        operator(8, true, row(BLANK), "");
        operator(6, Err.VALUE, row("x"), 1);
    }

    private static Counted numbers(int many) {
        Counted x = new Counted();
        for (int k = 1; k <= many; k++) {
            x.number(k);
        }
        return x;
    }

    private static Counted numbersAndLetters(int many) {
        Counted x = numbers(many);
        typeAll(x, "ab");
        return x;
    }

    private static void noSuchOperator() {
        sentence("operate: IllegalArgumentException when there is no such operator");
        for (int number : new int[] {-1, -2, 14, 15, 16, 100, 255, 256, Integer.MAX_VALUE, Integer.MIN_VALUE}) {
            for (int many : new int[] {0, 1, 2, 16}) {
                refused("operate(" + number + ") of " + many, Thrown.ARGUMENT,
                        () -> numbersAndLetters(many), x -> x.operate(number));
            }
        }
        operator(0, -1, 1);
        operator(13, true, 1, 1);
    }

    private static void notSoMany() {
        sentence("operate: IllegalArgumentException when there are not so many values");
        for (int number = 0; number <= 13; number++) {
            int told = number;
            int takes = number < 2 ? 1 : 2;
            Counted x = numbers(takes);
            x.operate(number);
            check("operate(" + number + ") of so many leaves", x.size(), 1);
            for (int many = 0; many < takes; many++) {
                int fewer = many;
                refused("operate(" + number + ") of " + many, Thrown.ARGUMENT,
                        () -> numbersAndLetters(fewer), y -> y.operate(told));
            }
            Counted full = numbersAndLetters(16);
            full.operate(number);
            check("operate(" + number + ") of 16 leaves", full.size(), 17 - takes);
            check("the text under way", full.type(0), 2);
            check("the lowest", full.value(16 - takes, 0, 0), 1);
        }
    }
}

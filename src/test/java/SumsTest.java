/** Promise 8: the functions 0 to 18. */
public final class SumsTest extends Bench {
    private static final double GREATEST = 1.7976931348623157E308;

    private SumsTest() {
    }

    public static void main(String[] args) {
        rows();
        f0Sum();
        f1Product();
        f2Sumsq();
        f3Average();
        f4MinF5Max();
        f6Count();
        f7Counta();
        f8Countblank();
        f9Median();
        f10LargeF11Small();
        f12Rank();
        f13VarpF14Var();
        f15Sumproduct();
        f16CountifByNumbers();
        f16CountifByTexts();
        f16CountifByPatterns();
        f16CountifByOthers();
        f17Sumif();
        f18Averageif();
        end("SumsTest");
    }

    /** What is the same of all functions of a row of numbers. */
    private static void rows() {
        for (int number : new int[] {0, 1, 2, 3, 4, 5, 9, 13, 14}) {
            function(number, Err.RING, 1, Err.RING, Err.NULL);
            function(number, Err.VALUE, 1, "x", Err.NULL);
            function(number, Err.VALUE, "", 2);
            function(number, Err.NULL, 1, row(1, Err.NULL, Err.NAME), Err.RING);
            function(number, Err.NAME, row("x", Err.NAME), "x");
            function(number, Err.NONE, column(2, 3, Err.NONE));
            function(number, Err.REFERENCE, table(2, 2, Err.REFERENCE, Err.RING, 3));
            function(number, Err.RING, row("5", Err.RING), 2, "x");
        }
    }

    private static void f0Sum() {
        function(0, 6, 1, 2, 3);
        function(0, 6, row(1, 2, 3));
        function(0, 36, 1, 2, 3, 4, 5, 6, 7, 8);
        function(0, 10, 1, row(2, "3", true, BLANK, ""), "4", row(false, 3));
        function(0, 3, true, "2", BLANK, false);
        function(0, 0, BLANK);
        function(0, 0, row("x"));
        function(0, 0, row("5"));
        function(0, 5, "5");
        function(0, 0.1 + 0.2 + 0.3, 0.1, 0.2, 0.3);
        function(0, 0.3 + 0.2 + 0.1, 0.3, 0.2, 0.1);
        function(0, 1, 1e308, -1e308, 1);
        function(0, Err.NUMBER, GREATEST, GREATEST, -GREATEST);
        function(0, Err.NUMBER, GREATEST, GREATEST, -GREATEST, -GREATEST, -GREATEST);
        function(0, 136, table(4, 1, 2, 3, 4, 5, 6, 7, 8, 9, 10, 11, 12), 13, 14, 31);
    }

    private static void f1Product() {
        function(1, 24, 2, 3, 4);
        function(1, 24, row(2, "x", 3), column(4, true));
        function(1, 0, row("x"));
        function(1, 0, row(BLANK, true));
        function(1, 0, BLANK, 5);
        function(1, 3, true, 3);
        function(1, 7, row("x"), 7);
        function(1, Err.NUMBER, 1e200, 1e200, 0);
        function(1, 0, 0, 1e200, 1e200);
        function(1, 0, -1, 0);
        function(1, 0.1 * 3 * 7, 0.1, 3, 7);
    }

    private static void f2Sumsq() {
        function(2, 14, 1, 2, 3);
        function(2, 25, row(-3, "2", true), 4);
        function(2, 0, row("x"));
        function(2, Err.NUMBER, 1e200, 1);
        function(2, 0.1 * 0.1 + 0.2 * 0.2, 0.1, 0.2);
        function(2, 5, true, "2", BLANK);
    }

    private static void f3Average() {
        function(3, 2, 1, 2, 3);
        function(3, 1.5, row(1, "7", 2, BLANK));
        function(3, 1, 1, 2, BLANK);
        function(3, Err.DIVISION, row("x", true));
        function(3, Err.NUMBER, GREATEST, GREATEST);
        function(3, (0.1 + 0.2) / 2, 0.1, 0.2);
    }

    private static void f4MinF5Max() {
        function(4, -3, 2, -3, 5);
        function(5, 5, 2, -3, 5);
        function(4, 2, row(7, 2), 3);
        function(5, 7, row(7, 2), 3);
        function(4, 0, row("x", true));
        function(5, 0, row("x", true));
        function(5, -1, row(-2, -1, BLANK));
        function(5, 0, row(-2, -1), BLANK);
        function(4, 0, 2, false);
        function(5, 1, true, 0.5);
        function(4, -7, "-7", 3);
        function(5, 9, 1, 9, row(2, 9), 3);
    }

    private static void f6Count() {
        function(6, 2, 1, 2);
        function(6, 5, 1, "2", true, BLANK, false, "x", "", Err.NAME);
        function(6, 1, row(1, "2", true, BLANK, Err.NAME, ""));
        function(6, 0, row("x"));
        function(6, 0, Err.NAME);
        function(6, 0, "abc");
        function(6, 1, " -2.5% ");
        function(6, 5, row(1, 2), column(3, "4"), 5, "6");
        function(6, 0, row(Err.RING, Err.NULL));
    }

    private static void f7Counta() {
        function(7, 8, 1, "2", true, BLANK, false, "x", "", Err.NAME);
        function(7, 5, row(1, "2", true, BLANK, Err.NAME, ""));
        function(7, 1, BLANK);
        function(7, 0, row(BLANK));
        function(7, 1, Err.NULL);
        function(7, 3, row(BLANK, 1), column(Err.NAME, BLANK), BLANK);
    }

    private static void f8Countblank() {
        function(8, 1, BLANK);
        function(8, 1, "");
        function(8, 0, " ");
        function(8, 0, 0);
        function(8, 0, false);
        function(8, 0, Err.NULL);
        function(8, 2, row(BLANK, "", 0, false, Err.NAME, " ", "x"));
        function(8, 4, table(2, BLANK, BLANK, "", ""));
    }

    private static void f9Median() {
        function(9, 2, 3, 1, 2);
        function(9, 2.5, 4, 1, 3, 2);
        function(9, 5, 5);
        function(9, 3, row(9, 3, "x", 1));
        function(9, Err.NUMBER, row("x", true));
        function(9, Err.NUMBER, GREATEST, GREATEST);
        function(9, 0, -1, 1);
        function(9, 1.5, 7, row(1, 1, 2), -3, 8);
        function(9, 0.5, true, BLANK);
    }

    private static void f10LargeF11Small() {
        Object given = row(5, 3, "9", 8, true, 3);
        int[] rising = {3, 3, 5, 8};
        for (int k = 1; k <= 4; k++) {
            function(10, rising[4 - k], given, k);
            function(11, rising[k - 1], given, k);
        }
        for (int number = 10; number <= 11; number++) {
            function(number, Err.NUMBER, given, 0);
            function(number, Err.NUMBER, given, -1);
            function(number, Err.NUMBER, given, 5);
            function(number, Err.NUMBER, row("x"), 1);
            function(number, 5, 5, 1);
            function(number, Err.NUMBER, 5, 2);
            // A single value is an array of one cell here, and no number is wanted of it.
            function(number, Err.NUMBER, "5", 1);
            function(number, Err.NUMBER, true, 1);
            function(number, Err.RING, Err.RING, Err.NULL);
            function(number, Err.NAME, row(1, Err.NAME), Err.NULL);
            wantsWhole(number, 1, given, 1);
        }
        function(11, 3, given, 1.9);
        function(10, 8, given, "1");
    }

    private static void f12Rank() {
        Object given = row(5, 3, "9", 8, true, 3);
        function(12, 1, 8, given);
        function(12, 2, 5, given);
        function(12, 3, 3, given);
        function(12, Err.NONE, 9, given);
        function(12, Err.NONE, 1, given);
        function(12, 2, "5", given);
        function(12, 1, 5, 5);
        function(12, Err.NONE, 5, "5");
        function(12, 1, BLANK, column(0, -1));
        function(12, Err.NAME, 5, row(5, Err.NAME));
        function(12, Err.RING, 5, Err.RING);
        wantsNumber(12, 0, 8, given);
        function(12, Err.VALUE, "x", row(Err.NAME));
    }

    private static void f13VarpF14Var() {
        function(13, 1.25, 1, 2, 3, 4);
        function(14, 5.0 / 3, 1, 2, 3, 4);
        function(13, 0, 7);
        function(14, Err.DIVISION, 7);
        function(13, Err.DIVISION, row("x"));
        function(14, Err.DIVISION, row("x"));
        function(14, 2, row(1, "x", 3));
        function(13, 1, row(1, "x", 3));
        function(13, 0.25, true, BLANK);
        function(13, Err.NUMBER, GREATEST, GREATEST);
        function(13, Err.NUMBER, GREATEST, -GREATEST);
        function(14, Err.NUMBER, 1e200, 0);
        double middle = (0.1 + 0.2 + 0.4) / 3;
        double sum = (0.1 - middle) * (0.1 - middle) + (0.2 - middle) * (0.2 - middle) + (0.4 - middle) * (0.4 - middle);
        function(13, sum / 3, 0.1, 0.2, 0.4);
        function(14, sum / 2, 0.1, 0.2, 0.4);
    }

    private static void f15Sumproduct() {
        function(15, 32, row(1, 2, 3), row(4, 5, 6));
        function(15, 6, row(1, 2, 3));
        function(15, 70, table(2, 1, 2, 3, 4), table(2, 5, 6, 7, 8));
        function(15, 48, row(1, 2), row(2, 3), row(3, 1), row(2, 6));
        function(15, 4, row(1, "2", true, 2), row(BLANK, 5, 3, 2));
        function(15, 6, 2, 3);
        function(15, 0, "2", 3);
        function(15, 6, row(2), 3);
        function(15, Err.VALUE, row(1, 2), column(1, 2));
        function(15, Err.VALUE, row(1, 2), row(1, 2, 3));
        function(15, Err.VALUE, table(3, 1, 2, 3, 4, 5, 6), table(2, 1, 2, 3, 4, 5, 6));
        function(15, Err.NAME, row(1, 2), row(1, Err.NAME, 3));
        function(15, Err.NULL, row(1, Err.NULL), row(1, Err.NAME));
        function(15, Err.RING, Err.RING, row(1, 2));
        function(15, Err.NUMBER, row(1e200, 1), row(1e200, 1), row(0, 1));
        function(15, Err.NUMBER, row(1e308, 1e308, -1e308));
        function(15, 0, row(-1), row(0));
    }

    private static void met(int want, Object given, Object told) {
        function(16, want, given, told);
    }

    private static void f16CountifByNumbers() {
        Object given = row(1, 2, 3, 2, "2", true, BLANK, "x");
        met(2, given, 2);
        met(2, given, "2");
        met(2, given, "=2");
        met(2, given, "= 200% ");
        met(6, given, "<>2");
        met(1, given, "<2");
        met(3, given, "<=2");
        met(1, given, ">2");
        met(3, given, ">=2");
        met(0, given, 5);
        met(8, given, "<>5");
        met(4, given, ">-1");
        met(1, row(0, BLANK, false, ""), 0);
        met(1, row(0, BLANK, false, ""), BLANK);
        met(1, row(0.5, "0.5"), ".5");
        met(1, 2, "2");
        met(0, "2", "2");
        // A row that is too great to be added up is counted all the same.
        met(3, row(GREATEST, GREATEST, GREATEST), ">0");
    }

    private static void f16CountifByTexts() {
        Object given = row("apple", "Banana", "", BLANK, 5, true, "cherry");
        met(1, given, "APPLE");
        met(1, given, "=banana");
        met(6, given, "<>apple");
        met(2, given, "<banana");
        met(3, given, "<=banana");
        met(1, given, ">banana");
        met(2, given, ">=banana");
        met(2, given, "=");
        met(2, given, "");
        met(6, given, "<>");
        met(5, row("a", "", BLANK, 5, true, "b"), "<>");
        met(0, given, "<");
        met(1, given, "<=");
        met(4, given, ">=");
        met(3, given, ">");
        met(1, row("=a", "a"), "==a");
        met(1, row("<a", "a"), "=<a");
        met(1, row("true", true), "TRUE");
        met(1, row("abc", "ab*"), ">ab*");
        met(1, row("2", 2, "2x"), "2x");
    }

    private static void f16CountifByPatterns() {
        Object given = row("cat", "cut", "coat", "CAT", "at", "ca?t", "c*t");
        met(4, given, "c?t");
        met(6, given, "c*t");
        met(7, given, "*t");
        met(7, given, "*");
        met(1, given, "??");
        met(1, given, "ca~?t");
        met(1, given, "c~*t");
        met(2, given, "<>*a*");
        met(0, given, "cat?");
        met(2, given, "cat*");
        met(5, given, "*a*t");
        met(1, row("a~b", "ab"), "a~b");
        met(1, row("a~b", "ab"), "a~~b");
        met(1, row("a~", "a"), "a~");
        met(1, row("~?", "~x"), "~~~?");
        met(2, row("~?", "~x"), "~~?");
        met(1, row("", BLANK, 5), "*");
        met(2, row("", BLANK, 5), "<>*");
        met(1, row(times("a", 255), times("a", 254) + "b"), times("*a", 100));
        met(2, row(times("a", 255), times("a", 254) + "b"), times("a*", 100));
    }

    private static void f16CountifByOthers() {
        Object given = row(true, false, 1, 0, "TRUE", BLANK, true);
        met(2, given, true);
        met(1, given, false);
        Object errors = row(Err.NAME, 1, Err.NONE, "a");
        met(1, errors, 1);
        met(1, errors, "<>1");
        met(1, errors, "<>a");
        met(2, errors, "<>");
        met(0, Err.NAME, "<>1");
        function(16, Err.NAME, errors, Err.NAME);
        function(16, Err.VALUE, errors, row(1, 2));
        met(1, errors, row(1));
        met(2, table(2, 1, 2, 2, 3), 2);
    }

    private static void f17Sumif() {
        Object given = row(1, 2, 3, "x", true, BLANK);
        function(17, 5, given, ">1");
        function(17, 50, given, ">1", row(10, 20, 30, 40, 50, 60));
        function(17, 40, given, "x", row(10, 20, 30, 40, 50, 60));
        function(17, 0, given, "x");
        function(17, 20, given, ">1", row(10, 20, "30", 40, 50, 60));
        function(17, 20, given, ">1", row(10, 20, Err.NAME, 40, 50, 60));
        function(17, 0, given, 7);
        function(17, Err.VALUE, given, ">1", row(1, 2));
        function(17, Err.VALUE, given, ">1", column(10, 20, 30, 40, 50, 60));
        function(17, Err.VALUE, given, ">1", 5);
        function(17, Err.RING, given, Err.RING, 5);
        function(17, Err.VALUE, given, row(1, 2));
        function(17, 9, 3, 3, 9);
        function(17, 5, row(5, Err.NAME), "<>1");
        function(17, Err.NUMBER, row(GREATEST, GREATEST, -GREATEST), "<>0");
        function(17, 30, table(2, 1, 2, 2, 1), 2, table(2, 5, 10, 20, 40));
        function(17, 0.1 + 0.2 + 0.3, row(0.1, 0.2, 0.3), ">0");
    }

    private static void f18Averageif() {
        Object given = row(1, 2, 3, "x", true, BLANK);
        function(18, 2.5, given, ">1");
        function(18, 25, given, ">1", row(10, 20, 30, 40, 50, 60));
        function(18, 20, given, ">1", row(10, 20, "30", 40, 50, 60));
        function(18, Err.DIVISION, given, "x");
        function(18, Err.DIVISION, given, 9);
        function(18, Err.DIVISION, given, ">1", row(10, "a", "b", 40, 50, 60));
        function(18, Err.VALUE, given, ">1", row(1, 2));
        function(18, Err.NULL, given, Err.NULL);
        function(18, Err.NUMBER, row(GREATEST, GREATEST), ">0");
        function(18, 20, given, ">1", row(10, 20, Err.NAME, 40, 50, 60));
    }
}

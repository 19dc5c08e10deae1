/** The functions 0 to 18, sentence by sentence, where the document names a boundary. */
public final class EdgesOfSumsTest extends Bench {
    private static final double GREATEST = 1.7976931348623157E308;
    private static final int[] OF_ROWS = {0, 1, 2, 3, 4, 5, 9, 13, 14};
    private static final Object[] NONE = {row("x"), row("5", true, false, BLANK, ""), table(2, "a", "b", "c", true)};

    private EdgesOfSumsTest() {
    }

    public static void main(String[] args) {
        rows();
        sums();
        averages();
        leastAndGreatest();
        count();
        counta();
        countblank();
        median();
        largeAndSmall();
        rank();
        variances();
        sumproduct();
        whatIsMet();
        numbersMeeting();
        textsMeeting();
        nothingAndTruthsMeeting();
        likeAny();
        likeTilde();
        likeLetters();
        likeLong();
        sumif();
        averageif();
        errorsCountForNothing();
        end("EdgesOfSumsTest");
    }

    private static void rows() {
        sentence("A ROW OF NUMBERS: of single ones the number wanted, of arrays those cells that are numbers");
        function(0, 3, "3");
        function(0, 0, row("3"));
        function(0, 1, true);
        function(0, 0, column(true));
        function(0, Err.VALUE, "x");
        function(0, 0, row("x"));
        function(0, 6, "1", row("1", 2, true), 3);
        function(3, 2, row(2, BLANK, "x", true));
        function(3, 1, 2, BLANK);
        sentence("(an error among the cells is the answer)");
        for (int number : OF_ROWS) {
            function(number, Err.RING, row(1, "x", Err.RING, Err.NULL));
            function(number, Err.NULL, table(2, 1, 2, Err.NULL, Err.RING));
            function(number, Err.RING, column(1, 2, Err.RING), Err.NULL);
            function(number, Err.NULL, Err.NULL, row(Err.RING));
        }
    }

    private static void sums() {
        sentence("0 SUM, 1 PRODUCT (1 times all, 0 of none), 2 SUMSQ (x * x): from 0 (1) on, each in turn");
        for (Object none : NONE) {
            function(0, 0, none);
            function(1, 0, none);
            function(2, 0, none);
            function(1, 7, none, 7);
        }
        function(1, 0, row(0));
        function(1, 5, 5);
        function(2, 25, -5);
        function(0, 36, 1, 2, 3, 4, 5, 6, 7, 8);
        function(1, 40320, 1, 2, 3, 4, 5, 6, 7, 8);
        function(2, 204, 1, 2, 3, 4, 5, 6, 7, 8);
        function(0, 1e16 + 1 + 1, 1e16, 1, 1);
        function(0, 1.0 + 1 + 1e16, 1, 1, 1e16);
        function(1, 0.1 * 0.2 * 0.3, row(0.1, 0.2), 0.3);
        function(1, 0.3 * 0.2 * 0.1, row(0.3, 0.2), 0.1);
        function(2, 0.3 * 0.3 + 0.2 * 0.2 + 0.1 * 0.1, 0.3, row(0.2, 0.1));
    }

    private static void averages() {
        sentence("3 AVERAGE: SUM / how many, DIVISION of none");
        for (Object none : NONE) {
            function(3, Err.DIVISION, none);
            function(3, Err.DIVISION, none, none);
            function(3, 4, none, 4);
        }
        function(3, 0, BLANK);
        function(3, 4.5, 1, 2, 3, 4, 5, 6, 7, 8);
        function(3, Err.NUMBER, GREATEST, GREATEST);
    }

    private static void leastAndGreatest() {
        sentence("4 MIN, 5 MAX: 0 of none");
        for (Object none : NONE) {
            function(4, 0, none);
            function(5, 0, none);
            function(4, 3, none, 3);
            function(5, -3, none, -3);
        }
        function(4, 5, 5);
        function(5, -5, -5);
        function(4, -GREATEST, GREATEST, -GREATEST, 0);
        function(5, GREATEST, GREATEST, -GREATEST, 0);
        function(4, -8, -1, -2, -3, -4, -5, -6, -7, -8);
        function(5, -1, -8, -7, -6, -5, -4, -3, -2, -1);
    }

    private static void count() {
        sentence("6 COUNT: of single ones also nothing, truths and numerals, no errors");
        Object[] counted = {0, -1, BLANK, true, false, "0", " -5.5% "};
        Object[] not = {"", "x", "TRUE", "1234567890123456", Err.NULL, Err.RING};
        for (Object told : counted) {
            function(6, 1, told);
            function(6, 2, told, told);
        }
        for (Object told : not) {
            function(6, 0, told);
            function(6, 1, told, 5);
        }
        sentence("COUNT of arrays: how many numbers; errors count for nothing here, in arrays, too");
        function(6, 2, row(0, -1, BLANK, true, "5", Err.NULL, ""));
        function(6, 0, row(BLANK, true, "5", Err.NULL));
        function(6, 0, row(Err.RING), Err.NULL, column(Err.NAME));
    }

    private static void counta() {
        sentence("7 COUNTA: how many single ones (errors and nothing, too), and cells that are not nothing");
        for (Object told : new Object[] {BLANK, "", 0, false, Err.NULL}) {
            function(7, 1, told);
            function(7, 8, told, told, told, told, told, told, told, told);
            function(7, told == BLANK ? 0 : 1, row(told));
        }
        function(7, 4, row("", 0, false, Err.NULL, BLANK, BLANK));
        function(7, 0, row(BLANK, BLANK));
    }

    private static void countblank() {
        sentence("8 COUNTBLANK: cells that are nothing or a text of no characters");
        function(8, 1, BLANK);
        function(8, 1, "");
        function(8, 1, row(BLANK));
        function(8, 1, row(""));
        for (Object told : new Object[] {" ", 0, false, Err.NULL, "0"}) {
            function(8, 0, told);
            function(8, 2, row(told, BLANK, ""));
        }
        sentence("(In these three an error, single or a cell, is no answer, but a value like others.)");
        function(6, 1, 1, Err.NULL);
        function(7, 2, 1, Err.NULL);
        function(8, 0, Err.NULL);
        function(6, 1, row(1, Err.NULL));
        function(7, 2, row(1, Err.NULL));
        function(8, 1, row(BLANK, Err.NULL));
    }

    private static void median() {
        sentence("9 MEDIAN: the middle one, or the half of the two middle ones' sum; NUMBER of none");
        for (Object none : NONE) {
            function(9, Err.NUMBER, none);
            function(9, 4, none, 4);
        }
        function(9, 1, 1);
        function(9, 1.5, 2, 1);
        function(9, 2, 3, 1, 2);
        function(9, 2.5, 4, 3, 2, 1);
        function(9, 4.5, 8, 1, 7, 2, 6, 3, 5, 4);
        function(9, 8.5, table(4, 16, 15, 14, 13, 12, 11, 10, 9), row(1, 2, 3, 4, 5, 6, 7, 8));
        function(9, 3, 3, 3, 3, 1);
        function(9, Err.NUMBER, GREATEST, GREATEST);
        function(9, GREATEST, GREATEST, GREATEST, GREATEST);
        function(9, Err.NUMBER, -GREATEST, -GREATEST);
    }

    private static void largeAndSmall() {
        sentence("10 LARGE, 11 SMALL: the i-th of a's row; NUMBER when there is none");
        Object given = row(5, "9", 8, true, 3, BLANK, 5);
        double[] rising = {3, 5, 5, 8};
        for (int i = 1; i <= 4; i++) {
            function(11, rising[i - 1], given, i);
            function(10, rising[4 - i], given, i);
        }
        for (Object i : new Object[] {0, 5, -1, 0.999, 6, 9007199254740991.0, -9007199254740991.0, 4294967297.0, false}) {
            function(10, Err.NUMBER, given, i);
            function(11, Err.NUMBER, given, i);
        }
        for (Object none : NONE) {
            function(10, Err.NUMBER, none, 1);
            function(11, Err.NUMBER, none, 1);
        }
        function(10, 5, 5, 1);
        function(11, Err.NUMBER, 5, 2);
    }

    private static void rank() {
        sentence("12 RANK: 1 and how many numbers of a's row are greater; NONE when n is not among them");
        Object given = row(5, "9", 8, true, 3, BLANK, 5);
        function(12, 1, 8, given);
        function(12, 2, 5, given);
        function(12, 4, 3, given);
        for (double x : new double[] {9, 1, 0, 4, 5.000000000000001}) {
            function(12, Err.NONE, x, given);
        }
        for (Object none : NONE) {
            function(12, Err.NONE, 5, none);
        }
        function(12, 1, 5, 5);
        function(12, Err.NONE, 5, 6);
    }

    private static void variances() {
        sentence("13 VARP, 14 VAR: / how many (VAR: less 1); DIVISION when that is not above 0");
        for (Object none : NONE) {
            function(13, Err.DIVISION, none);
            function(14, Err.DIVISION, none);
            function(13, 0, none, 4);
            function(14, Err.DIVISION, none, 4);
            function(14, 2, none, 4, 2);
        }
        function(13, 0, 7);
        function(14, Err.DIVISION, 7);
        function(13, 1, 1, 3);
        function(14, 2, 1, 3);
        function(14, Err.NUMBER, GREATEST, GREATEST);
        function(13, Err.NUMBER, 1e200, -1e200);
        function(14, Err.DIVISION, GREATEST);
    }

    private static void sumproduct() {
        sentence("15 SUMPRODUCT: arrays of the same rows and columns (VALUE if not)");
        Object two = table(2, 1, 2, 3, 4);
        function(15, 30, two, two);
        function(15, 100, two, two, two);
        function(15, 354, two, two, two, two);
        function(15, 10, two);
        for (Object other : new Object[] {row(1, 2, 3, 4), column(1, 2, 3, 4), row(1, 2), column(1, 2), 1, row(1),
            table(2, 1, 2, 3, 4, 5, 6), table(3, 1, 2, 3, 4, 5, 6)}) {
            function(15, Err.VALUE, two, other);
            function(15, Err.VALUE, other, two);
            function(15, Err.VALUE, two, two, other);
            function(15, Err.VALUE, two, two, two, other);
        }
        function(15, 6, 2, row(3));
        sentence("those that are no numbers being 0");
        function(15, 4, row(2, "3", true, BLANK), row(2, 3, 4, 5));
        function(15, 0, "5");
        function(15, 0, true, 5);
        sentence("(an error among the cells is the answer, before VALUE)");
        function(15, Err.RING, row(1, Err.RING), column(1, 2));
        function(15, Err.RING, column(1, 2), row(1, Err.RING));
        function(15, Err.RING, row(1, 2), Err.RING);
        function(15, Err.NULL, row(1, 2), row(1), row(Err.NULL, Err.RING));
    }

    private static void met(int want, Object given, Object told) {
        function(16, want, given, told);
    }

    private static void whatIsMet() {
        sentence("if v is a text that begins with <> <= >= < > =, by that, and w is the rest");
        Object given = row(1, 2, 3, 4, 5);
        int[] due = {4, 3, 3, 2, 2, 1, 1};
        String[] signs = {"<>", "<=", ">=", "<", ">", "=", ""};
        for (int k = 0; k < signs.length; k++) {
            met(due[k], given, signs[k] + "3");
            met(due[k], given, signs[k] + " 3.0 ");
            met(due[k], given, signs[k] + "300%");
        }
        met(1, row("<3", 3), "=<3");
        met(1, row("=3", 3), "==3");
        met(1, row("<>3", 3), "=<>3");
        met(1, row(">", "<"), "=>");
        met(0, row("=3", 3), "=> 3");
        met(0, row(1, "=>3"), ">=>3x");
        met(2, row("=b", "b", "a"), ">=a");
        met(1, row("=b", "b", "a"), "<==b");
        met(1, row(" =3", 3), " =3");
        met(1, row("x=3", 3), "x=3");
        sentence("otherwise by =, and w is v");
        met(1, given, 3);
        met(1, row(true, 1, "TRUE"), true);
        met(2, row("abc", "ABC", "abcd"), "abc");
    }

    private static void numbersMeeting() {
        sentence("If w is a numeral it is that number. For a number w: a number that stands so to it");
        Object given = row(-1, 0, 0.5, 1, "0.5", true, BLANK, "");
        met(1, given, 0.5);
        met(1, given, ".5");
        met(1, given, "=50%");
        met(2, given, "<0.5");
        met(3, given, "<=.5");
        met(1, given, ">0.50");
        met(2, given, ">=0.5");
        met(0, given, "<-1");
        met(1, given, "<=-1");
        met(0, given, ">1");
        met(1, given, ">=1");
        met(1, row(123456789012345.0, "123456789012345"), "123456789012345");
        met(1, row(1234567890123456.0, "1234567890123456"), "1234567890123456");
        sentence("(for <> also all that are no numbers)");
        met(7, given, "<>0.5");
        met(8, given, "<>7");
        met(5, row("5", true, BLANK, "", 4, 5), "<>5");
    }

    private static void textsMeeting() {
        sentence("For a text w, with = and <>: a text that is LIKE it, or not (for <> also all that are no texts, nothing too)");
        Object given = row("a", "B", "", BLANK, 5, true, "c");
        met(1, given, "b");
        met(1, given, "=b");
        met(6, given, "<>b");
        met(7, given, "<>x");
        met(4, given, "*");
        met(3, given, "<>*");
        sentence("(= with no characters: nothing as well)");
        met(2, given, "");
        met(2, given, "=");
        met(1, row(BLANK), "");
        met(1, row(""), "=");
        met(0, row(" ", 0, false), "=");
        met(6, given, "<>");
        met(1, row(BLANK), "<>");
        met(0, row(""), "<>");
        sentence("else a text that stands so to it by order");
        met(2, given, "<b");
        met(3, given, "<=b");
        met(1, given, ">b");
        met(2, given, ">=b");
        met(0, given, "<");
        met(1, given, "<=");
        met(3, given, ">");
        met(4, given, ">=");
        met(1, row("b*", "bc"), ">b*");
        met(1, row("b*", "bc"), "<=b*");
    }

    private static void nothingAndTruthsMeeting() {
        sentence("For nothing as w it is 0. For a truth w: a truth that stands so.");
        Object given = row(0, -0.0, BLANK, "", false, "0", true, 1);
        met(2, given, BLANK);
        met(2, given, 0);
        met(1, given, true);
        met(1, given, false);
        met(2, given, row(BLANK));
    }

    private static void likeAny() {
        sentence("? is any character, * any number of any");
        met(0, "", "?");
        met(1, "a", "?");
        met(1, "?", "?");
        met(0, "ab", "?");
        met(1, "ab", "??");
        met(0, "a", "??");
        met(1, "", "*");
        met(1, "a", "*");
        met(1, "", "**");
        met(1, "abc", "a*c");
        met(1, "ac", "a*c");
        met(0, "a", "a*a");
        met(1, "aa", "a*a");
        met(1, "abcabd", "a*d");
        met(0, "abcabd", "a*c");
        met(1, "abcabc", "a*c");
        met(1, "a", "a*");
        met(1, "a", "*a");
        met(0, "a", "?*a");
        met(1, "ba", "?*a");
        met(1, "abc", "*?");
        met(0, "", "*?");
        met(1, "xaybz", "*a?b*");
        met(0, "xabz", "*a?b*");
    }

    private static void likeTilde() {
        sentence("~ before ? * ~ that one, all others themselves");
        met(1, "?", "~?");
        met(0, "a", "~?");
        met(1, "*", "~*");
        met(0, "", "~*");
        met(0, "ab", "~*");
        met(1, "~", "~~");
        met(0, "~~", "~~");
        met(1, "~~", "~~~~");
        met(1, "~", "~");
        met(1, "a~", "a~");
        met(1, "~a", "~a");
        met(0, "a", "~a");
        met(1, "~?", "~~~?");
        met(0, "~x", "~~~?");
        met(1, "~x", "~~?");
        met(1, "~~", "~~~");
        met(1, "a?b*c~d", "a~?b~*c~~d");
        met(1, "[a]", "[a]");
        met(0, "a", "[a]");
        met(1, ".+^$", ".+^$");
    }

    private static void likeLetters() {
        sentence("A text is LIKE a pattern, small letters being great ones");
        met(1, "aBcXyZ", "AbCxYz");
        met(1, "aBcXyZ", "a*YZ");
        met(0, "@", "`");
        met(0, "[", "{");
        met(0, "a", "b");
    }

    private static void likeLong() {
        sentence("LIKE, up to the 255 characters of a text");
        String longest = times("a", 255);
        met(1, longest, longest);
        met(0, longest, times("a", 254));
        met(0, times("a", 254), longest);
        met(1, longest, times("?", 255));
        met(0, longest, times("?", 254));
        met(1, longest, times("*", 255));
        met(1, longest, times("a*", 127) + "a");
        met(0, longest, times("a*", 127) + "b");
        met(1, longest, "*" + times("a", 254));
        met(1, times("*", 127), times("~*", 127));
        met(0, times("*", 126), times("~*", 127));
        met(1, times("*", 127) + "~", times("~*", 127) + "~");
    }

    private static void sumif() {
        sentence("17 SUMIF: the sum of them, or of the cells of the third at the same places, that are numbers");
        Object given = table(2, 1, 2, 3, 4);
        function(17, 7, given, ">2");
        function(17, 70, given, ">2", table(2, 10, 20, 30, 40));
        function(17, 40, given, ">2", table(2, 10, 20, "30", 40));
        function(17, 0, given, ">4");
        function(17, 0, given, ">2", table(2, 10, 20, true, BLANK));
        function(17, 0, row("x", true), "<>1");
        sentence("(VALUE if it is of other rows or columns)");
        for (Object other : new Object[] {row(1, 2, 3, 4), column(1, 2, 3, 4), row(1, 2), column(1, 2), 1, row(1),
            table(2, 1, 2, 3, 4, 5, 6), table(3, 1, 2, 3, 4, 5, 6)}) {
            function(17, Err.VALUE, given, ">2", other);
            function(17, Err.VALUE, other, ">2", given);
            function(18, Err.VALUE, given, ">2", other);
            function(17, Err.RING, given, Err.RING, other);
        }
        function(17, 9, 1, 1, row(9));
        function(17, 9, row(1), 1, 9);
    }

    private static void averageif() {
        sentence("18 AVERAGEIF: that / how many numbers, DIVISION of none");
        Object given = row(1, 2, 3, "x");
        function(18, 2.5, given, ">1");
        function(18, 3, given, ">2");
        function(18, Err.DIVISION, given, ">3");
        function(18, Err.DIVISION, given, "x");
        function(18, 40, given, "x", row(10, 20, 30, 40));
        function(18, Err.DIVISION, given, "x", row(10, 20, 30, "40"));
        function(18, 20, given, ">1", row(10, 20, BLANK, 40));
        function(18, 0, row(0), 0);
        function(18, Err.NUMBER, row(GREATEST, GREATEST), ">0");
    }

    private static void errorsCountForNothing() {
        sentence("(In these three errors count for nothing, and meet nothing; an error as v is the answer.)");
        Object given = row(1, Err.RING, "a", Err.NULL);
        for (Object told : new Object[] {1, "<>5", "<>b", "<>", "a", "*", "=", "<9", ">=0"}) {
            met(told.equals("<>5") || told.equals("<>b") || told.equals("<>") ? 2 : told.equals("=") ? 0 : 1, given, told);
        }
        met(0, Err.RING, "<>1");
        function(17, 1, given, "<>5");
        function(17, 3, row(1, 2, 3), ">1", row(Err.RING, Err.NULL, 3));
        function(18, 3, row(1, 2, 3), ">1", row(Err.RING, Err.NULL, 3));
        function(17, 0, row(Err.RING), "<>1", row(7));
        for (int number = 16; number <= 18; number++) {
            function(number, Err.NAME, given, Err.NAME);
            function(number, Err.NAME, given, row(Err.NAME));
            function(number, Err.VALUE, given, row(1, 2));
        }
    }
}

/**
 * What is wanted of each argument of each function and operator, by the letters that the
 * document gives them: n a number, i a whole number, t a text, l a truth, v a single value,
 * s a single one of a row of numbers, b one of AND and its kin, and a, which wants nothing.
 */
public final class EdgesOfArgumentsTest extends Bench {
    private static final double ALL_WHOLE = 9007199254740992.0;
    private static final Object GIVEN = table(2, 5, "x", 3, 1);
    private static final int OPERATORS = 1000;

    /** A function (or an operator, above 1000), what it wants, and arguments that it takes. */
    private static final Object[][] CALLS = {
        {0, "ss", 3, 4}, {1, "ss", 3, 4}, {2, "ss", 3, 4}, {3, "ss", 3, 4}, {4, "ss", 3, 4}, {5, "ss", 3, 4},
        {9, "ss", 3, 4}, {10, "ai", GIVEN, 2}, {11, "ai", GIVEN, 2}, {12, "na", 1, GIVEN}, {13, "ss", 3, 4},
        {14, "ss", 3, 4}, {16, "av", GIVEN, 1}, {17, "ava", GIVEN, 1, GIVEN}, {18, "ava", GIVEN, 1, GIVEN},
        {19, "n", 3}, {20, "n", 3}, {21, "n", 3}, {22, "nn", 3, 2}, {23, "nn", 3, 2}, {24, "nn", 3, 2},
        {25, "ii", 4, 6}, {26, "ii", 4, 6}, {27, "i", 3}, {28, "ii", 4, 2}, {29, "n", 3}, {30, "n", 2},
        {31, "nn", 3, 2}, {32, "nn", 3, 2}, {33, "ni", 3.25, 1}, {34, "ni", 3.25, 1},
        {35, "l", true, 1, 2}, {38, "i", 1, "x"}, {39, "bb", true, true}, {40, "bb", false, true}, {41, "bb", true, false},
        {42, "l", true}, {52, "v", 3}, {53, "v", "x"},
        {56, "t", "abc"}, {57, "ti", "abc", 2}, {58, "ti", "abc", 2}, {59, "tii", "abc", 2, 1}, {60, "t", "aB"},
        {61, "t", "aB"}, {62, "t", "aB"}, {63, "t", " a"}, {64, "ttt", "a", "b", "c"}, {65, "ti", "ab", 2},
        {66, "ttti", "abab", "a", "x", 2}, {67, "tiit", "abcd", 2, 1, "x"}, {68, "tti", "a", "banana", 3},
        {69, "tti", "a", "banana", 3}, {70, "tt", "a", "a"}, {71, "i", 65}, {72, "t", "a"}, {73, "t", "12"},
        {76, "aii", GIVEN, 1, 2}, {77, "vai", 3, row(1, 3, 5), 1}, {78, "vail", 3, table(2, 1, 2, 3, 4), 2, true},
        {79, "vail", 3, table(2, 1, 3, 2, 4), 2, true}, {81, "iii", 2000, 2, 3}, {82, "n", 100}, {83, "n", 100},
        {84, "n", 100}, {85, "ni", 100, 2}, {86, "ni", 100, 2}, {87, "ni", 100, 2}, {88, "iii", 1, 2, 3},
        {89, "n", 0.7}, {90, "n", 0.7}, {91, "n", 0.7},
        {1000, "n", 3}, {1001, "n", 3}, {1002, "nn", 3, 2}, {1003, "nn", 3, 2}, {1004, "nn", 3, 2}, {1005, "nn", 3, 2},
        {1006, "nn", 3, 2}, {1007, "tt", "a", "b"}, {1008, "vv", 1, 2}, {1009, "vv", 1, 2}, {1010, "vv", 1, 2},
        {1011, "vv", 1, 2}, {1012, "vv", 1, 2}, {1013, "vv", 1, 2}};

    private EdgesOfArgumentsTest() {
    }

    public static void main(String[] args) {
        for (Object[] told : CALLS) {
            int number = (Integer) told[0];
            String kinds = (String) told[1];
            Object[] values = java.util.Arrays.copyOfRange(told, 2, told.length);
            for (int place = 0; place < kinds.length(); place++) {
                char kind = kinds.charAt(place);
                if (kind != 'a') {
                    anErrorIsTheAnswer(number, values, place);
                    aSingleValueIsWanted(number, values, place, kind);
                    whatItBecomes(number, values, place, kind);
                }
            }
            theFirstError(number, kinds, values);
        }
        beforeWhatIsTold();
        end("EdgesOfArgumentsTest");
    }

    private static Object[] changed(Object[] values, int place, Object told) {
        Object[] all = values.clone();
        all[place] = told;
        return all;
    }

    private static void answers(int number, Object want, Object... values) {
        if (number >= OPERATORS) {
            operator(number - OPERATORS, want, values);
        } else {
            function(number, want, values);
        }
    }

    private static Object answerOf(int number, Object... values) {
        Counted x = with(values);
        if (number >= OPERATORS) {
            x.operate(number - OPERATORS);
        } else {
            x.call(number, values.length);
        }
        return read(x, 0);
    }

    /** The two values are the same to the argument in this place. */
    private static void alike(int number, Object[] values, int place, Object told, Object other) {
        answers(number, answerOf(number, changed(values, place, other)), changed(values, place, told));
    }

    private static void anErrorIsTheAnswer(int number, Object[] values, int place) {
        sentence("All that is wanted of the arguments is looked at first; an error in it is the answer");
        for (Err error : Err.values()) {
            answers(number, error, changed(values, place, error));
        }
    }

    private static void aSingleValueIsWanted(int number, Object[] values, int place, char kind) {
        if (kind != 's' && kind != 'b') {
            sentence("A SINGLE VALUE IS WANTED: an array of one cell is that cell, another one the error VALUE");
            answers(number, answerOf(number, values), changed(values, place, row(values[place])));
            answers(number, Err.RING, changed(values, place, row(Err.RING)));
            answers(number, Err.VALUE, changed(values, place, row(values[place], values[place])));
            answers(number, Err.VALUE, changed(values, place, column(values[place], values[place])));
            answers(number, Err.VALUE, changed(values, place, column(Err.RING, Err.NULL)));
        } else {
            sentence("of arrays those cells that ..; an error among the cells is the answer");
            answers(number, answerOf(number, values), changed(values, place, column("x", values[place], BLANK)));
            answers(number, Err.RING, changed(values, place, row(1, Err.RING, Err.NULL)));
        }
    }

    private static void whatItBecomes(int number, Object[] values, int place, char kind) {
        switch (kind) {
            case 'n':
            case 's':
                aNumber(number, values, place);
                break;
            case 'i':
                aNumber(number, values, place);
                aWholeNumber(number, values, place);
                break;
            case 't':
                aText(number, values, place);
                break;
            case 'l':
            case 'b':
                aTruth(number, values, place);
                break;
            default:
                break;
        }
    }

    private static void aNumber(int number, Object[] values, int place) {
        sentence("A NUMBER: nothing is 0, a truth 1 or 0, a text its numeral (VALUE if it is none)");
        alike(number, values, place, BLANK, 0);
        alike(number, values, place, true, 1);
        alike(number, values, place, false, 0);
        alike(number, values, place, " 2 ", 2);
        alike(number, values, place, "-200%", -2);
        alike(number, values, place, "1.5", 1.5);
        answers(number, Err.VALUE, changed(values, place, ""));
        answers(number, Err.VALUE, changed(values, place, "two"));
        answers(number, Err.VALUE, changed(values, place, "1234567890123456"));
    }

    private static void aWholeNumber(int number, Object[] values, int place) {
        sentence("A WHOLE NUMBER: that, cut off towards 0 (the error NUMBER from 2^53 on, either sign)");
        alike(number, values, place, 1.999, 1);
        alike(number, values, place, 0.999, 0);
        alike(number, values, place, -0.999, 0);
        alike(number, values, place, -1.999, -1);
        answers(number, Err.NUMBER, changed(values, place, ALL_WHOLE));
        answers(number, Err.NUMBER, changed(values, place, -ALL_WHOLE));
        answers(number, Err.NUMBER, changed(values, place, 1e300));
    }

    private static void aText(int number, Object[] values, int place) {
        sentence("A TEXT: nothing is none, a number as it is written, truths TRUE and FALSE");
        alike(number, values, place, BLANK, "");
        alike(number, values, place, 12.5, "12.5");
        alike(number, values, place, -0.0, "0");
        alike(number, values, place, true, "TRUE");
        alike(number, values, place, false, "FALSE");
        alike(number, values, place, 999999999999999.0, "999999999999999");
        answers(number, Err.VALUE, changed(values, place, 1e15));
    }

    private static void aTruth(int number, Object[] values, int place) {
        sentence("A TRUTH: nothing is FALSE, a number is TRUE when it is not 0, a text TRUE or FALSE in any letters");
        alike(number, values, place, BLANK, false);
        alike(number, values, place, 0, false);
        alike(number, values, place, 4.9E-324, true);
        alike(number, values, place, -7, true);
        alike(number, values, place, "tRUE", true);
        alike(number, values, place, "False", false);
        answers(number, Err.VALUE, changed(values, place, ""));
        answers(number, Err.VALUE, changed(values, place, "1"));
    }

    private static void theFirstError(int number, String kinds, Object[] values) {
        sentence("of several the first");
        for (int first = 0; first < kinds.length(); first++) {
            for (int second = first + 1; second < kinds.length(); second++) {
                if (kinds.charAt(first) != 'a' && kinds.charAt(second) != 'a') {
                    Object[] two = changed(changed(values, first, Err.RING), second, Err.NULL);
                    answers(number, Err.RING, two);
                    boolean ofRow = kinds.charAt(first) == 's' || kinds.charAt(first) == 'b';
                    answers(number, Err.VALUE, changed(two, first, ofRow ? "x" : row(1, 2)));
                    answers(number, Err.NULL, changed(two, first, values[first]));
                }
            }
        }
    }

    /** An error in a later argument is the answer, though an earlier one is none that the function takes. */
    private static void beforeWhatIsTold() {
        sentence("Only then comes what is told of a function");
        Err later = Err.REFERENCE;
        function(10, later, row(1), later);
        function(11, later, row("x"), later);
        function(12, later, 5, row(1, later));
        function(15, later, row(1, 2), row(1, 2, later));
        function(22, later, 0, later);
        function(23, later, 1, later);
        function(25, later, -1, later);
        function(26, later, 0, later);
        function(28, later, -1, later);
        function(28, later, 1001, later);
        function(31, later, 1, later);
        function(32, later, 1, later);
        function(39, later, false, later);
        function(40, later, true, later);
        function(41, later, row("x"), later);
        function(59, later, "a", 0, later);
        function(64, later, times("a", 200), times("a", 200), later);
        function(66, later, times("a", 200), "a", "bb", later);
        function(67, later, "a", 0, -1, later);
        function(68, later, "x", "a", later);
        function(76, later, row(1), -1, later);
        function(77, later, 1, table(2, 1, 2, 3, 4), later);
        function(78, later, 1, row(1), 0, later);
        function(79, later, 1, row(1), 9, later);
        function(81, later, 99999, 1, later);
        function(85, later, -1, later);
        function(86, later, -1, later);
        function(87, later, 1e9, later);
        function(88, later, -1, 99999, later);
        operator(4, later, 1, later);
        operator(7, later, times("a", 255), later);
        sentence("of several the first told");
        function(76, Err.VALUE, row(1, 2), 9, -1);
        function(78, Err.VALUE, 0, row(1), 0);
        function(22, Err.NUMBER, 0, -0.5);
        function(22, Err.NUMBER, 0, -1024);
    }
}

/**
 * Calls one behind another on the same object: each answers as on a new one, whatever the
 * call before it was, answered an error, threw, or had longer texts and arrays.
 */
public final class SuccessionTest extends Bench {
    private static final int OPERATORS = 1000;
    private static final Object LINE = row(3, 1, 2, "x", true);
    private static final Object TABLE = table(2, 1, "one", 2, "two");

    /** A function (or an operator, above 1000) and its arguments. */
    private static final Object[][] CALLS = {
        {0, 1, 2}, {0, LINE, 4}, {0, Err.RING}, {0, "x", 1}, {1, 2, 3}, {1, row("x")}, {2, LINE}, {3, LINE}, {3, row("x")},
        {4, LINE, -7}, {4, row("x")}, {5, LINE}, {5, row("x")}, {2, row("x")}, {6, LINE, "5"}, {7, LINE, Err.NULL}, {8, LINE}, {9, LINE}, {9, row("x")}, {10, LINE, 1},
        {11, LINE, 3}, {11, LINE, 9}, {12, 2, LINE}, {13, LINE}, {14, 5}, {15, LINE, LINE}, {15, LINE, 1}, {16, LINE, ">1"},
        {16, row("ab", "abc", "b"), "a*"}, {16, row("ab", "abc", "b"), "?"}, {16, row("ab", "", BLANK), ""}, {17, LINE, "<3"},
        {18, LINE, "x"}, {18, LINE, Err.NAME}, {22, 2, 10}, {22, 0, 0}, {25, 12, 18}, {26, 4, 6, 10}, {26, -1, 6},
        {35, true, LINE, 2}, {35, "x", 1, 2}, {36, Err.NAME, TABLE}, {37, Err.NAME, 1}, {38, 2, "a", TABLE}, {38, 9, 1},
        {39, true, LINE}, {40, row("x")}, {41, true, true, 1}, {43}, {44}, {50, LINE}, {52, LINE}, {56, "abcdef"}, {57, "abc", 2},
        {57, "abc", -1}, {63, "  one  two "}, {64, "ab", 1, true}, {65, "ab", 3}, {65, "ab", 999}, {66, "abab", "a", "xyz"},
        {66, "abab", "a", "x", 0}, {68, "n", "banana", 4}, {68, "x", "banana"}, {69, "n?n", "banana"}, {69, "a*a", "banana"},
        {69, "z*", "banana"}, {69, "z", "b"}, {69, "z", ""}, {69, "", "ba"}, {76, TABLE, 2}, {76, TABLE, 3}, {77, "o*", column("two", "one"), 0}, {77, 2, LINE},
        {77, 2, LINE, -1}, {78, 2, TABLE, 2}, {78, 2, TABLE, 3}, {79, 1, TABLE, 2, false}, {80, TABLE}, {81, 2000, 2, 30},
        {81, 2000, 99999, 1}, {85, 61, 2}, {86, 31, 1}, {88, 1, 2, 3}, {91, 0.7}, {1000, "5"}, {1000, "x"}, {1005, 1, 2},
        {1004, 1, 0}, {1007, "ab", "cd"}, {1008, BLANK, ""}, {1010, "a", Err.NULL}};

    private SuccessionTest() {
    }

    public static void main(String[] args) {
        for (Object[] first : CALLS) {
            for (Object[] second : CALLS) {
                oneBehindAnother(first, second);
            }
        }
        allInOneRun();
        behindRefused();
        textsUnderWay();
        end("SuccessionTest");
    }

    private static Object[] values(Object[] told) {
        return java.util.Arrays.copyOfRange(told, 1, told.length);
    }

    private static String name(Object[] told) {
        return (Integer) told[0] >= OPERATORS ? "operator " + ((Integer) told[0] - OPERATORS) : "function " + told[0];
    }

    private static void make(Counted x, Object[] told) {
        pushAll(x, values(told));
        int number = (Integer) told[0];
        if (number >= OPERATORS) {
            x.operate(number - OPERATORS);
        } else {
            x.call(number, told.length - 1);
        }
    }

    private static Object answerOf(Object[] told) {
        Counted x = new Counted();
        make(x, told);
        return read(x, 0);
    }

    private static void oneBehindAnother(Object[] first, Object[] second) {
        Counted x = new Counted();
        make(x, first);
        make(x, second);
        String call = name(second) + " behind " + name(first);
        check(call, read(x, 0), answerOf(second));
        check(call + ", the first answer", read(x, 1), answerOf(first));
        check(call + ", how many", x.size(), 2);
    }

    /** The stack's own answers become arguments: each call's is dropped, but it has been there. */
    private static void allInOneRun() {
        for (int from = 0; from < CALLS.length; from += 10) {
            Counted x = new Counted();
            for (int k = from; k < from + 12 && k < CALLS.length; k++) {
                make(x, CALLS[k]);
                check(name(CALLS[k]) + " in a run", read(x, 0), answerOf(CALLS[k]));
                x.drop();
            }
            check("size behind a run", x.size(), 0);
        }
    }

    private static void behindRefused() {
        Step[] refused = {x -> x.call(92, 1), x -> x.call(0, 0), x -> x.call(0, 9), x -> x.operate(14), x -> x.operate(-1),
            x -> x.array(0, 1), x -> x.array(17, 1), x -> x.again(-1), x -> x.plain(1, 1), x -> x.type(0x7F), x -> x.about(0, 3)};
        for (Step step : refused) {
            for (Object[] told : CALLS) {
                Counted x = new Counted();
                pushAll(x, values(told));
                check("a call behind it throws", thrownBy(x, step) == Thrown.NOTHING, false);
                for (int k = 1; k < told.length; k++) {
                    x.drop();
                }
                make(x, told);
                check(name(told) + " behind a call that threw", read(x, 0), answerOf(told));
            }
        }
    }

    private static void textsUnderWay() {
        for (Object[] told : CALLS) {
            Counted x = new Counted();
            pushAll(x, values(told));
            typeAll(x, "under way");
            int number = (Integer) told[0];
            if (number >= OPERATORS) {
                x.operate(number - OPERATORS);
            } else {
                x.call(number, told.length - 1);
            }
            check(name(told) + " with a text under way", read(x, 0), answerOf(told));
            x.text();
            check("the text under way behind " + name(told), read(x, 0), "under way");
        }
    }
}

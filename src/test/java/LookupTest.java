/** Promise 8: the functions 74 to 80. */
public final class LookupTest extends Bench {
    private static final Object TABLE = table(3, 1, "one", 10, 2, "two", 20, 3, Err.NAME, BLANK);

    private LookupTest() {
    }

    public static void main(String[] args) {
        f74RowsF75Columns();
        f76IndexOfTwo();
        f76IndexOfThree();
        f76IndexWrong();
        f77MatchSame();
        f77MatchRising();
        f77MatchFalling();
        f77MatchWrong();
        f78Vlookup();
        f78VlookupOrder();
        f79Hlookup();
        f80Transpose();
        end("LookupTest");
    }

    private static void f74RowsF75Columns() {
        function(74, 3, table(2, 1, 2, 3, 4, 5, 6));
        function(75, 2, table(2, 1, 2, 3, 4, 5, 6));
        function(74, 1, row(1, Err.NAME));
        function(75, 2, row(1, Err.NAME));
        for (Object single : new Object[] {BLANK, 1, "", true, Err.NAME, row(Err.NAME)}) {
            function(74, 1, single);
            function(75, 1, single);
        }
    }

    private static void f76IndexOfTwo() {
        function(76, "b", row("a", "b", "c"), 2);
        function(76, "b", column("a", "b", "c"), 2);
        function(76, row("a", "b", "c"), row("a", "b", "c"), 0);
        function(76, column("a", "b", "c"), column("a", "b", "c"), 0);
        function(76, row(2, "two", 20), TABLE, 2);
        function(76, TABLE, TABLE, 0);
        function(76, 5, 5, 1);
        function(76, row(5), 5, 0);
        function(76, row(5), row(5), 0);
        function(76, 5, row(5), 1.9);
        function(76, Err.NAME, Err.NAME, 1);
        function(76, row(Err.NAME), Err.NAME, 0);
    }

    private static void f76IndexOfThree() {
        function(76, 20, TABLE, 2, 3);
        function(76, Err.NAME, TABLE, 3, 2);
        function(76, BLANK, TABLE, 3, 3);
        function(76, row(2, "two", 20), TABLE, 2, 0);
        function(76, column("one", "two", Err.NAME), TABLE, 0, 2);
        function(76, TABLE, TABLE, 0, 0);
        function(76, "b", row("a", "b"), 1, 2);
        function(76, row("b"), row("a", "b"), 0, 2);
        function(76, row("b"), column("a", "b"), 2, 0);
        function(76, row(7), 7, 0, 0);
        function(76, row(7), 7, 1, 0);
        function(76, 7, 7, 1, 1);
    }

    private static void f76IndexWrong() {
        function(76, Err.VALUE, TABLE, -1);
        function(76, Err.VALUE, TABLE, -1, 9);
        function(76, Err.VALUE, TABLE, 9, -1);
        function(76, Err.VALUE, row(1, 2), -1);
        function(76, Err.VALUE, column(1, 2), -1);
        function(76, Err.REFERENCE, TABLE, 4, 1);
        function(76, Err.REFERENCE, TABLE, 1, 4);
        function(76, Err.REFERENCE, TABLE, 4, 0);
        function(76, Err.REFERENCE, TABLE, 0, 4);
        function(76, Err.REFERENCE, TABLE, 4);
        function(76, Err.REFERENCE, TABLE, 4294967297.0, 1);
        function(76, Err.REFERENCE, row(1, 2), 3);
        function(76, Err.REFERENCE, row(1, 2), 2, 1);
        function(76, Err.REFERENCE, column(1, 2), 3);
        function(76, Err.REFERENCE, 5, 2);
        function(76, Err.REFERENCE, Err.NAME, 2);
        wantsWhole(76, 1, row(1, 2), 1);
        wantsWhole(76, 1, TABLE, 1, 1);
        wantsWhole(76, 2, TABLE, 1, 1);
        function(76, Err.RING, TABLE, -1, Err.RING);
    }

    private static void f77MatchSame() {
        Object given = row(3, "x", 1, true, BLANK, "1", Err.NAME, 1);
        function(77, 3, 1, given, 0);
        function(77, 1, 3, given, 0);
        function(77, 6, "1", given, 0);
        function(77, 4, true, given, 0);
        function(77, 2, "X", given, 0);
        function(77, 2, "?", given, 0);
        function(77, 2, "*", given, 0);
        function(77, Err.NONE, "", given, 0);
        function(77, Err.NONE, false, given, 0);
        function(77, Err.NONE, 7, given, 0);
        function(77, Err.NONE, BLANK, given, 0);
        function(77, 2, BLANK, column(BLANK, 0), 0);
        function(77, 3, 1, given, 0.9);
        function(77, 3, 1, given, -0.9);
        function(77, 3, 1, given, false);
        function(77, 3, 1, given, BLANK);
        function(77, 2, "a~*", row("ab", "a*"), 0);
        function(77, 1, 5, 5, 0);
        function(77, 1, "a*", "ABC", 0);
    }

    private static void f77MatchRising() {
        Object given = row(1, 3, 5, 7);
        for (Object manner : new Object[] {1, 2, 1e15, true}) {
            function(77, 2, 3, given, manner);
            function(77, 2, 4, given, manner);
            function(77, 4, 9, given, manner);
            function(77, Err.NONE, 0, given, manner);
        }
        function(77, 2, 3, given);
        function(77, 3, 6.9, given);
        function(77, 3, 3, row(3, 3, 3));
        function(77, 1, 4, row(3, 5, 3));
        function(77, 4, 4, row(3, "x", true, 3, BLANK, Err.NAME, 5));
        function(77, 2, "b", row("a", "B", "c"));
        function(77, 2, "bz", row("a", "B", "c"));
        function(77, Err.NONE, "*", row("a", "b"));
        function(77, 1, false, row(false, true));
        function(77, 2, true, row(false, true));
        function(77, 1, BLANK, row(-1, 1));
        function(77, Err.NONE, 5, row("a", true, BLANK));
        function(77, 1, 5, 4);
    }

    private static void f77MatchFalling() {
        Object given = row(7, 5, 3, 1);
        for (Object manner : new Object[] {-1, -2, "-1"}) {
            function(77, 3, 3, given, manner);
            function(77, 2, 4, given, manner);
            function(77, 4, 0, given, manner);
            function(77, Err.NONE, 9, given, manner);
        }
        function(77, 3, 3, row(3, 3, 3), -1);
        function(77, 1, 4, row(5, 3, 5), -1);
        function(77, 2, "b", row("c", "B", "a"), -1);
        function(77, 3, 4, row(5, "x", 4, Err.NAME, 3), -1);
    }

    private static void f77MatchWrong() {
        function(77, Err.NONE, 1, TABLE, 0);
        function(77, Err.NONE, 1, TABLE, 1);
        function(77, 1, 1, row(1), 0);
        function(77, Err.NONE, 1, Err.NAME, 0);
        wantsSingle(77, 0, 1, row(1, 2), 1);
        wantsWhole(77, 2, 1, row(1, 2), 1);
        function(77, Err.RING, 1, TABLE, Err.RING);
        function(77, Err.VALUE, row(1, 2), TABLE, Err.RING);
        function(77, Err.NAME, Err.NAME, row(Err.NAME), 0);
    }

    private static void f78Vlookup() {
        function(78, "two", 2, TABLE, 2);
        function(78, 20, 2, TABLE, 3);
        function(78, 2, 2, TABLE, 1);
        function(78, "two", 2.5, TABLE, 2);
        function(78, "two", 2, TABLE, 2, false);
        function(78, "two", 2, TABLE, 2, true);
        function(78, Err.NONE, 2.5, TABLE, 2, false);
        function(78, Err.NONE, 0, TABLE, 2);
        function(78, Err.NONE, BLANK, TABLE, 2);
        function(78, Err.NAME, 9, TABLE, 2);
        function(78, BLANK, 3, TABLE, 3);
        function(78, Err.NONE, "2", TABLE, 2, 0);
        function(78, 9, "b*", table(2, "abc", 8, "Bcd", 9), 2, false);
        function(78, Err.NONE, "*", table(2, "abc", 8, "Bcd", 9), 2, true);
        function(78, 5, 5, 5, 1);
        function(78, 8, 7, row(7, 8), 2, "false");
        function(78, 9, BLANK, table(2, BLANK, 8, 0, 9), 2, BLANK);
        function(78, "two", row(2), TABLE, 2);
    }

    private static void f78VlookupOrder() {
        for (int number = 78; number <= 79; number++) {
            function(number, Err.VALUE, 9, TABLE, 0);
            function(number, Err.VALUE, 0, TABLE, 0);
            function(number, Err.VALUE, 2, TABLE, -1, false);
            function(number, Err.REFERENCE, 2, TABLE, 4);
            function(number, Err.REFERENCE, 0, TABLE, 4);
            function(number, Err.REFERENCE, 0, TABLE, 4294967297.0);
            function(number, Err.REFERENCE, 1, 1, 2);
            function(number, Err.NONE, 1, Err.NAME, 1);
            wantsSingle(number, 0, 2, TABLE, 0);
            wantsWhole(number, 2, 2, TABLE, 1);
            wantsSingle(number, 3, 2, TABLE, 0, true);
            function(number, Err.VALUE, 2, TABLE, 1, "x");
            function(number, Err.RING, Err.RING, TABLE, Err.NAME, Err.NULL);
            function(number, Err.NAME, 1, TABLE, Err.NAME, Err.NULL);
            function(number, Err.NULL, 1, TABLE, 0, Err.NULL);
        }
    }

    private static void f79Hlookup() {
        Object turned = table(3, 1, 2, 3, "one", "two", Err.NAME, 10, 20, BLANK);
        function(79, "two", 2, turned, 2);
        function(79, 20, 2, turned, 3);
        function(79, "two", 2.5, turned, 2);
        function(79, Err.NONE, 2.5, turned, 2, false);
        function(79, Err.NAME, 9, turned, 2);
        function(79, BLANK, 3, turned, 3);
        function(79, 8, 3, table(2, 3, 5, 8, 9), 2);
        function(79, 9, 5, table(2, 3, 5, 8, 9), 2, false);
        function(79, 3, 3, row(1, 3, 5, 7), 1);
        function(79, 5, 3, column(3, 5), 2);
        function(79, Err.REFERENCE, 3, row(1, 3), 2);
        function(79, 12, "c?", table(3, "ab", "b", "CD", 10, 11, 12), 2, 0);
        function(79, 5, 5, 5, 1);
    }

    private static void f80Transpose() {
        function(80, column(1, "b", true), row(1, "b", true));
        function(80, row(1, BLANK, Err.NAME), column(1, BLANK, Err.NAME));
        function(80, table(3, 1, 3, 5, 2, 4, 6), table(2, 1, 2, 3, 4, 5, 6));
        function(80, table(2, 1, 4, 2, 5, 3, 6), table(3, 1, 2, 3, 4, 5, 6));
        function(80, row(5), 5);
        function(80, row(Err.NAME), Err.NAME);
        function(80, row(5), row(5));
    }
}

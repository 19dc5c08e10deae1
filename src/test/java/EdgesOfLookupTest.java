/** The functions 74 to 80, sentence by sentence, where the document names a boundary. */
public final class EdgesOfLookupTest extends Bench {
    private static final double WHOLE = 9007199254740991.0;
    private static final Object TABLE = table(3, 1, "one", 10, 2, "two", 20);
    private static final double[] FAR = {255, 65537, 2147483648.0, 4294967297.0, WHOLE};

    private EdgesOfLookupTest() {
    }

    public static void main(String[] args) {
        rowsAndColumns();
        indexCell();
        indexAll();
        indexAlone();
        indexBelow();
        indexBeyond();
        matchShape();
        matchSame();
        matchRising();
        matchFalling();
        matchManner();
        matchKinds();
        vlookupColumn();
        vlookupManner();
        hlookup();
        errorsInCells();
        transpose();
        greatestArrays();
        end("EdgesOfLookupTest");
    }

    private static void rowsAndColumns() {
        sentence("74 ROWS, 75 COLUMNS 1 (a)");
        Object[] singles = {BLANK, 5, "", "x", true, Err.NULL, Err.NONE, row(1), row(Err.RING)};
        for (Object single : singles) {
            function(74, 1, single);
            function(75, 1, single);
        }
        Object[] cells = new Object[15];
        java.util.Arrays.fill(cells, Err.NAME);
        for (int columns : new int[] {1, 3, 5, 15}) {
            function(74, 15 / columns, table(columns, cells));
            function(75, columns, table(columns, cells));
        }
    }

    private static void indexCell() {
        sentence("76 INDEX: the cell of a row and column");
        Object[][] cells = {{1, "one", 10}, {2, "two", 20}};
        for (int i = 1; i <= 2; i++) {
            for (int j = 1; j <= 3; j++) {
                function(76, cells[i - 1][j - 1], TABLE, i, j);
                function(76, cells[i - 1][j - 1], TABLE, i + 0.999, j + 0.999);
            }
        }
        function(76, "x", "x", 1, 1);
        function(76, "x", row("x"), 1, 1);
        function(76, BLANK, BLANK, 1, 1);
    }

    private static void indexAll() {
        sentence("0 is all of them, an array (also of one cell)");
        function(76, TABLE, TABLE, 0, 0);
        function(76, TABLE, TABLE, 0);
        function(76, row(1, "one", 10), TABLE, 1, 0);
        function(76, row(2, "two", 20), TABLE, 2, 0);
        function(76, column(1, 2), TABLE, 0, 1);
        function(76, column(10, 20), TABLE, 0, 3);
        function(76, row("b"), row("a", "b"), 0, 2);
        function(76, row("b"), column("a", "b"), 2, 0);
        function(76, row("a", "b"), row("a", "b"), 1, 0);
        function(76, column("a", "b"), column("a", "b"), 0, 1);
        for (Object single : new Object[] {5, "x", BLANK, Err.NULL}) {
            function(76, row(single), single, 0, 0);
            function(76, row(single), single, 0, 1);
            function(76, row(single), single, 1, 0);
            function(76, row(single), single, 0);
            function(76, row(single), row(single), 0);
            function(76, single, single, 1);
        }
        function(76, TABLE, TABLE, -0.999, 0.999);
    }

    private static void indexAlone() {
        sentence("(of an array of one row or one column the second alone is its place, else the whole row's)");
        for (int i = 1; i <= 3; i++) {
            function(76, 10 * i, row(10, 20, 30), i);
            function(76, 10 * i, column(10, 20, 30), i);
        }
        function(76, row(10, 20, 30), row(10, 20, 30), 0);
        function(76, column(10, 20, 30), column(10, 20, 30), 0);
        function(76, row(1, "one", 10), TABLE, 1);
        function(76, row(2, "two", 20), TABLE, 2);
        function(76, Err.REFERENCE, row(10, 20, 30), 2, 1);
        function(76, row(10, 20, 30), row(10, 20, 30), 1, 0);
        function(76, row(20), column(10, 20, 30), 2, 0);
    }

    private static void indexBelow() {
        sentence("INDEX: VALUE below 0");
        Object[] arrays = {TABLE, row(1, 2), column(1, 2), 5};
        for (Object a : arrays) {
            for (double below : new double[] {-1, -1.5, -2, -WHOLE, -4294967295.0}) {
                function(76, Err.VALUE, a, below);
                function(76, Err.VALUE, a, below, 1);
                function(76, Err.VALUE, a, 1, below);
                function(76, Err.VALUE, a, below, 0);
                function(76, Err.VALUE, a, 0, below);
                function(76, Err.VALUE, a, below, 99);
                function(76, Err.VALUE, a, 99, below);
            }
        }
    }

    private static void indexBeyond() {
        sentence("INDEX: REFERENCE beyond");
        function(76, Err.REFERENCE, TABLE, 3);
        function(76, Err.REFERENCE, TABLE, 3, 1);
        function(76, Err.REFERENCE, TABLE, 3, 0);
        function(76, Err.REFERENCE, TABLE, 1, 4);
        function(76, Err.REFERENCE, TABLE, 0, 4);
        function(76, Err.REFERENCE, TABLE, 3, 4);
        function(76, Err.REFERENCE, row(1, 2), 3);
        function(76, Err.REFERENCE, column(1, 2), 3);
        function(76, Err.REFERENCE, row(1, 2), 1, 3);
        function(76, Err.REFERENCE, column(1, 2), 1, 2);
        function(76, Err.REFERENCE, 5, 2);
        function(76, Err.REFERENCE, 5, 1, 2);
        function(76, Err.REFERENCE, 5, 2, 0);
        for (double far : FAR) {
            function(76, Err.REFERENCE, TABLE, far);
            function(76, Err.REFERENCE, TABLE, far, 1);
            function(76, Err.REFERENCE, TABLE, 1, far);
            function(76, Err.REFERENCE, TABLE, 0, far);
            function(76, Err.REFERENCE, 5, far);
        }
    }

    private static void matchShape() {
        sentence("77 MATCH: a of one row or one column (NONE if not)");
        for (Object manner : new Object[] {0, 1, -1}) {
            function(77, 1, 1, row(1, 2), 0);
            function(77, 1, 1, column(1, 2), 0);
            function(77, 1, 1, 1, manner);
            function(77, 1, 1, row(1), manner);
            function(77, Err.NONE, 1, table(2, 1, 1, 1, 1), manner);
            function(77, Err.NONE, 1, table(2, 1, 1, 1, 1, 1, 1), manner);
            function(77, Err.NONE, 1, table(3, 1, 1, 1, 1, 1, 1), manner);
        }
        function(77, Err.NONE, 1, table(2, 1, 1, 1, 1));
    }

    private static void matchSame() {
        sentence("with i = 0 the first place of a cell of v's kind that is the same (a text v: like it)");
        Object given = row(BLANK, "1", true, 1, 1, "ab", "a*", false);
        function(77, 4, 1, given, 0);
        function(77, 2, "1", given, 0);
        function(77, 3, true, given, 0);
        function(77, 8, false, given, 0);
        function(77, 6, "AB", given, 0);
        function(77, 6, "a*", given, 0);
        function(77, 7, "a~*", given, 0);
        function(77, 6, "?b", given, 0);
        function(77, 2, "?", given, 0);
        function(77, 2, "*", given, 0);
        sentence("MATCH: NONE when there is none");
        for (Object v : new Object[] {0, 2, 0.999, "", "abc", "b", "?~", BLANK}) {
            function(77, Err.NONE, v, given, 0);
        }
        function(77, Err.NONE, false, row(0, BLANK, "", "FALSE"), 0);
        function(77, 14, 7, row(1, 2, 3, 4, 5, 6, 8, 9, 10, 11, 12, 13, 14, 7), 0);
    }

    private static void matchRising() {
        sentence("with 1 the last place of a cell of v's kind not above v before the first of them that is above");
        Object given = row(2, 4, 4, 6);
        double[] looked = {1.999, 2, 3.999, 4, 5, 6, 7};
        Object[] due = {Err.NONE, 1, 1, 3, 3, 4, 4};
        for (int k = 0; k < looked.length; k++) {
            function(77, due[k], looked[k], given, 1);
            function(77, due[k], looked[k], given);
            function(77, due[k], looked[k], column(2, 4, 4, 6), 1);
        }
        function(77, 1, 5, row(4, 6, 4, 5), 1);
        function(77, Err.NONE, 5, row(6, 4, 5), 1);
        function(77, 3, 5, row(4, "z", 5, "z", 6), 1);
        function(77, 2, "b", row("a", "B", "c", "a"), 1);
        function(77, 2, "b~", row("a", "B", "c"), 1);
        function(77, 1, false, row(false, true), 1);
        function(77, 2, true, row(false, true), 1);
        function(77, Err.NONE, false, row(true, false), 1);
        function(77, Err.NONE, "*", row("a"), 1);
    }

    private static void matchFalling() {
        sentence("below 0 likewise with above and below exchanged");
        Object given = row(6, 4, 4, 2);
        double[] looked = {6.001, 6, 5, 4, 3, 2, 1};
        Object[] due = {Err.NONE, 1, 1, 3, 3, 4, 4};
        for (int k = 0; k < looked.length; k++) {
            function(77, due[k], looked[k], given, -1);
        }
        function(77, 1, 5, row(6, 4, 6, 5), -1);
        function(77, Err.NONE, 5, row(4, 6, 5), -1);
        function(77, 3, 5, row(6, "a", 5, "a", 4), -1);
        function(77, 2, "b", row("c", "B", "a", "c"), -1);
        function(77, 2, false, row(true, false), -1);
        function(77, 1, true, row(true, false), -1);
    }

    private static void matchManner() {
        sentence("with 1 (or without, or above); below 0");
        Object given = row(2, 1, 3);
        for (Object zero : new Object[] {0, 0.999, -0.999, BLANK, false, "0"}) {
            function(77, 2, 1, given, zero);
        }
        for (Object above : new Object[] {1, 1.5, 2, 1000, WHOLE, true, "1", 4294967296.0}) {
            function(77, Err.NONE, 1, given, above);
            function(77, 2, 2, given, above);
        }
        for (Object below : new Object[] {-1, -1.5, -2, -1000, -WHOLE, "-1", -4294967296.0}) {
            function(77, 3, 1, given, below);
            function(77, 1, 2, given, below);
        }
    }

    private static void matchKinds() {
        sentence("nothing as v is 0; errors in cells are the same as none");
        for (Object manner : new Object[] {0, 1, -1}) {
            function(77, 2, BLANK, row(BLANK, 0), manner);
            function(77, Err.NONE, BLANK, row(BLANK, "", false, Err.NULL), manner);
            function(77, Err.NONE, 5, row(Err.NULL, "5", true), manner);
            function(77, 2, 5, row(Err.NULL, 5, Err.RING), manner);
            function(77, Err.NONE, 5, Err.NULL, manner);
            for (Err error : Err.values()) {
                function(77, error, error, row(1, error), manner);
            }
        }
    }

    private static void vlookupColumn() {
        sentence("before all VALUE for i below 1, REFERENCE for one beyond the array");
        for (int number = 78; number <= 79; number++) {
            Object given = number == 78 ? TABLE : table(2, 1, 2, "one", "two", 10, 20);
            Object[] due = {2, "two", 20};
            for (int i = 1; i <= 3; i++) {
                function(number, due[i - 1], 2, given, i);
                function(number, due[i - 1], 2, given, i + 0.999);
                function(number, due[i - 1], 2, given, i, false);
            }
            for (double below : new double[] {0, 0.999, -0.999, -1, -WHOLE, -4294967295.0}) {
                function(number, Err.VALUE, 2, given, below);
                function(number, Err.VALUE, 0, given, below);
                function(number, Err.VALUE, 9, given, below, false);
            }
            function(number, Err.REFERENCE, 2, given, 4);
            function(number, Err.REFERENCE, 0, given, 4);
            function(number, Err.REFERENCE, 9, given, 4, false);
            for (double far : FAR) {
                function(number, Err.REFERENCE, 2, given, far);
            }
            function(number, 5, 5, 5, 1);
            function(number, Err.REFERENCE, 5, 5, 2);
            function(number, Err.VALUE, 5, 5, 0);
        }
    }

    private static void vlookupManner() {
        sentence("78 VLOOKUP: MATCH in the first column, with 0 if l is FALSE, otherwise 1 (TRUE without)");
        Object given = table(2, 2, "a", 4, "b", 3, "c");
        function(78, "c", 3, given, 2, false);
        function(78, "a", 3, given, 2);
        function(78, "a", 3, given, 2, true);
        function(78, "a", 3, given, 2, 4.9E-324);
        function(78, "c", 3, given, 2, BLANK);
        function(78, "c", 3, given, 2, "false");
        function(78, "a", 3, given, 2, "TRUE");
        function(78, Err.VALUE, 3, given, 2, "no");
        function(78, Err.NONE, 1, given, 2);
        function(78, Err.NONE, 1, given, 2, false);
        function(78, Err.NONE, 5, given, 2, false);
        function(78, "c", 5, given, 2);
        function(78, Err.NONE, "a", given, 2, false);
        function(78, 7, "A?", table(2, "ab", 7, "ac", 8), 2, false);
        function(78, 8, "ad", table(2, "ab", 7, "ac", 8), 2);
        function(78, BLANK, 1, row(1, BLANK), 2);
        function(78, Err.RING, 1, row(1, Err.RING), 2, false);
        function(78, "zero", BLANK, table(2, BLANK, "none", 0, "zero"), 2, false);
    }

    private static void hlookup() {
        sentence("79 HLOOKUP: MATCH in the first row; then the cell of that column in row i");
        Object given = table(3, 2, 4, 3, "a", "b", "c");
        function(79, "c", 3, given, 2, false);
        function(79, "a", 3, given, 2);
        function(79, "c", 5, given, 2);
        function(79, Err.NONE, 1, given, 2);
        function(79, Err.NONE, 5, given, 2, false);
        function(79, 4, 4, given, 1, false);
        function(79, "x", 1, column(1, "x"), 2);
        function(79, Err.REFERENCE, 1, column(1, "x"), 3);
        function(79, Err.REFERENCE, 1, row(1, "x"), 2);
        function(79, Err.RING, 1, column(1, Err.RING), 2, false);
        function(79, 7, "A?", table(2, "ab", "ac", 7, 8), 2, false);
        function(79, "zero", BLANK, table(2, BLANK, 0, "none", "zero"), 2, false);
    }

    private static void errorsInCells() {
        sentence("(74 to 80: errors in cells of a, also a single one, are cells like others.)");
        for (Err error : Err.values()) {
            function(74, 1, error);
            function(75, 2, row(error, error));
            function(76, error, error, 1);
            function(76, 5, row(error, 5), 2);
            function(77, 2, 5, row(error, 5), 0);
            function(77, Err.NONE, 5, error, 0);
            function(78, 5, 1, row(1, 5, error), 2);
            function(78, Err.NONE, 1, error, 1);
            function(79, 5, 1, column(1, 5, error), 2);
            function(79, Err.NONE, 1, error, 1);
            function(80, row(error), error);
            function(80, column(error, 1), row(error, 1));
            sentence("(In 77 to 79 an error as v is the answer)");
            function(77, error, error, row(error), 0);
            function(78, error, error, row(error, 1), 2, false);
            function(79, error, error, column(error, 1), 2, false);
            sentence("errors in cells of a are cells like others");
        }
    }

    private static void transpose() {
        sentence("80 TRANSPOSE 1 (a), an array");
        for (Object single : new Object[] {BLANK, 5, "x", true, Err.NULL}) {
            function(80, row(single), single);
            function(80, row(single), row(single));
        }
        function(80, column(1, 2, 3), row(1, 2, 3));
        function(80, row(1, 2, 3), column(1, 2, 3));
        function(80, table(2, 1, 2, "one", "two", 10, 20), TABLE);
        function(80, table(2, 1, 3, 2, 4), table(2, 1, 2, 3, 4));
    }

    private static void greatestArrays() {
        sentence("an array of all 16 values");
        Counted x = new Counted();
        for (int k = 0; k < 16; k++) {
            x.number(k);
        }
        x.array(2, 8);
        x.call(80, 1);
        check("rows", x.about(0, 1), 8);
        check("columns", x.about(0, 2), 2);
        for (int k = 0; k < 16; k++) {
            check("cell", x.value(0, k % 8, k / 8), k);
        }
        x.number(8);
        x.number(2);
        x.call(76, 3);
        check("the last cell", read(x, 0), 15);
    }
}

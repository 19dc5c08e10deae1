/** Promise 8: the functions 35 to 55. */
public final class ChoicesTest extends Bench {
    private ChoicesTest() {
    }

    public static void main(String[] args) {
        f35If();
        f36Iferror();
        f37Ifna();
        f38Choose();
        f39AndF40OrF41Xor();
        f39To41Cells();
        f39To41Errors();
        f42Not();
        f43NaF44TrueF45False();
        f46To51();
        f52N();
        f53T();
        f54Type();
        f55Errortype();
        end("ChoicesTest");
    }

    private static void f35If() {
        function(35, 1, true, 1, 2);
        function(35, 2, false, 1, 2);
        function(35, false, false, 1);
        function(35, 1, 5, 1);
        function(35, "b", 0, "a", "b");
        function(35, "a", "true", "a", "b");
        function(35, "b", BLANK, "a", "b");
        function(35, BLANK, true, BLANK, 1);
        function(35, 1, true, 1, Err.NAME);
        function(35, Err.NAME, false, 1, Err.NAME);
        function(35, Err.NAME, true, Err.NAME, 1);
        function(35, row(1, 2), true, row(1, 2), 3);
        function(35, row(Err.NULL), false, 3, row(Err.NULL));
        function(35, Err.VALUE, "x", 1, 2);
        function(35, Err.RING, Err.RING, 1, Err.NULL);
        function(35, Err.VALUE, row(true, true), 1, 2);
        function(35, 1, row(true), 1, 2);
    }

    private static void f36Iferror() {
        function(36, 1, 1, 2);
        function(36, BLANK, BLANK, 2);
        for (Err error : Err.values()) {
            function(36, 2, error, 2);
        }
        function(36, Err.NULL, Err.NAME, Err.NULL);
        function(36, 1, 1, Err.NULL);
        function(36, row(Err.NAME, 1), row(Err.NAME, 1), 2);
        function(36, row(Err.NAME), row(Err.NAME), 2);
        function(36, row(3, 4), Err.NAME, row(3, 4));
    }

    private static void f37Ifna() {
        function(37, 1, 1, 2);
        function(37, 2, Err.NONE, 2);
        function(37, Err.VALUE, Err.VALUE, 2);
        function(37, Err.RING, Err.RING, Err.NULL);
        function(37, Err.NULL, Err.NONE, Err.NULL);
        function(37, row(Err.NONE), row(Err.NONE), 2);
        function(37, column(3, 4), Err.NONE, column(3, 4));
        function(37, "", "", 2);
    }

    private static void f38Choose() {
        function(38, "a", 1, "a");
        function(38, "b", 2, "a", "b", "c");
        function(38, "c", 3.9, "a", "b", "c");
        function(38, 17, 7, 11, 12, 13, 14, 15, 16, 17);
        function(38, Err.VALUE, 0, "a");
        function(38, Err.VALUE, 0.9, "a");
        function(38, Err.VALUE, -1, "a");
        function(38, Err.VALUE, 2, "a");
        function(38, Err.VALUE, 8, 11, 12, 13, 14, 15, 16, 17);
        function(38, "a", true, "a", Err.NAME);
        function(38, Err.NAME, 2, "a", Err.NAME);
        function(38, row(1, 2), "2", "a", row(1, 2));
        function(38, row(5), 1, row(5));
        function(38, BLANK, 1, BLANK);
        function(38, Err.NUMBER, 1e300, "a");
        wantsWhole(38, 0, 1, "a");
    }

    private static void ofTruths(Object and, Object or, Object xor, Object... told) {
        function(39, and, told);
        function(40, or, told);
        function(41, xor, told);
    }

    private static void f39AndF40OrF41Xor() {
        ofTruths(true, true, true, true);
        ofTruths(false, false, false, false);
        ofTruths(true, true, false, true, true);
        ofTruths(false, true, true, true, false);
        ofTruths(true, true, true, true, true, true);
        ofTruths(false, false, false, false, false);
        ofTruths(true, true, false, 5, "true");
        ofTruths(false, true, true, BLANK, -0.5);
        ofTruths(false, false, false, "False", 0);
        ofTruths(true, true, false, true, 1, 2, 3, "TRUE", true, 7, -1);
    }

    private static void f39To41Cells() {
        ofTruths(false, true, true, row(true, 0, "x", BLANK, "TRUE"));
        ofTruths(true, true, false, row(5, true));
        ofTruths(true, true, true, row("x", BLANK), true);
        ofTruths(Err.VALUE, Err.VALUE, Err.VALUE, row("x", BLANK));
        ofTruths(Err.VALUE, Err.VALUE, Err.VALUE, row("TRUE"));
        ofTruths(false, false, false, row("x", BLANK), BLANK);
        ofTruths(false, true, true, column(0, false), table(2, 1, 1, 1, 0));
    }

    private static void f39To41Errors() {
        Err first = Err.RING;
        ofTruths(first, first, first, true, first, Err.NULL);
        ofTruths(first, first, first, false, first);
        ofTruths(Err.VALUE, Err.VALUE, Err.VALUE, false, "x", first);
        ofTruths(first, first, first, row(true, first, Err.NULL), "x");
        ofTruths(Err.VALUE, Err.VALUE, Err.VALUE, "", row(first));
        ofTruths(first, first, first, row("x"), first);
    }

    private static void f42Not() {
        function(42, false, true);
        function(42, true, false);
        function(42, true, BLANK);
        function(42, false, 2);
        function(42, true, "false");
        function(42, Err.VALUE, "x");
        wantsSingle(42, 0, true);
        function(42, true, row(false));
    }

    private static void f43NaF44TrueF45False() {
        function(43, Err.NONE);
        function(44, true);
        function(45, false);
    }

    private static void f46To51() {
        Object[] told = {BLANK, 1, "", true, Err.NAME, Err.NONE, row(1, 2), row("a"), row(BLANK), column(Err.NONE)};
        boolean[][] due = {
            {true, false, false, false, false, false, false, false, true, false},
            {false, true, false, false, false, false, false, false, false, false},
            {false, false, true, false, false, false, false, true, false, false},
            {false, false, false, true, false, false, false, false, false, false},
            {false, false, false, false, true, true, true, false, false, true},
            {false, false, false, false, false, true, false, false, false, true}};
        for (int number = 46; number <= 51; number++) {
            for (int k = 0; k < told.length; k++) {
                function(number, due[number - 46][k], told[k]);
            }
        }
        function(49, true, false);
        function(47, false, "5");
    }

    private static void f52N() {
        function(52, 5, 5);
        function(52, 1, true);
        function(52, 0, false);
        function(52, 0, "5");
        function(52, 0, BLANK);
        function(52, 7, row(7));
        wantsSingle(52, 0, 1);
    }

    private static void f53T() {
        function(53, "a", "a");
        function(53, "", 5);
        function(53, "", true);
        function(53, "", BLANK);
        function(53, "a", row("a"));
        wantsSingle(53, 0, 1);
    }

    private static void f54Type() {
        function(54, 1, BLANK);
        function(54, 1, 5);
        function(54, 2, "5");
        function(54, 4, false);
        function(54, 16, Err.NAME);
        function(54, 64, row(1));
        function(54, 64, row(Err.NAME));
        function(54, 64, table(2, 1, 2, 3, 4));
    }

    private static void f55Errortype() {
        for (Err error : Err.values()) {
            function(55, error.ordinal() + 1, error);
            function(55, error.ordinal() + 1, row(error));
        }
        function(55, Err.NONE, 5);
        function(55, Err.NONE, BLANK);
        function(55, Err.NONE, "x");
        function(55, 3, row(1, 2));
    }
}

/** The functions 35 to 55, sentence by sentence, where the document names a boundary. */
public final class EdgesOfChoicesTest extends Bench {
    private static final double GREATEST = 1.7976931348623157E308;
    private static final double LEAST = 4.9E-324;
    private static final Object MANY = table(2, 1, Err.RING, "x", BLANK);
    private static final Object[] ALL_KINDS = {BLANK, 0, -2.5, "", "abc", true, false, Err.NULL, Err.NONE, row(7), row(Err.NONE), MANY};

    private EdgesOfChoicesTest() {
    }

    public static void main(String[] args) {
        ifChosen();
        ifOnlyThat();
        iferror();
        ifna();
        chooseChosen();
        chooseNone();
        truthsOfSingles();
        truthsOfCells();
        truthsOfNone();
        truthsAndErrors();
        xor();
        notOfOne();
        ofNone();
        areThey();
        areTheyOfArrays();
        asNumber();
        asText();
        type();
        errorType();
        end("EdgesOfChoicesTest");
    }

    private static void ifChosen() {
        sentence("35 IF: the second or the third (FALSE without)");
        for (Object value : ALL_KINDS) {
            function(35, value, true, value, "no");
            function(35, value, false, "no", value);
            function(35, value, true, value);
            function(35, false, false, value);
        }
        function(35, 1, LEAST, 1, 2);
        function(35, 2, -0.0, 1, 2);
        function(35, 2, row(false), 1, 2);
    }

    private static void ifOnlyThat() {
        sentence("IF: only that is wanted; an array is taken as it is where it is the answer");
        for (Err error : Err.values()) {
            function(35, 1, true, 1, error);
            function(35, 2, false, error, 2);
            function(35, false, false, error);
            function(35, error, true, error, 2);
            function(35, error, error, 1, 2);
            function(35, error, error, Err.RING, Err.NULL);
        }
        function(35, 1, true, 1, MANY);
        function(35, MANY, true, MANY, Err.NULL);
        function(35, row(Err.NULL), true, row(Err.NULL), 2);
        function(35, Err.VALUE, row(true, true), 1, 2);
        function(35, Err.VALUE, "yes", Err.NULL, Err.NULL);
    }

    private static void iferror() {
        sentence("36 IFERROR: the second if the first is an error; only that one");
        for (Object value : ALL_KINDS) {
            boolean error = value == Err.NULL || value == Err.NONE;
            function(36, error ? "no" : value, value, "no");
            function(36, value, Err.RING, value);
            function(36, 5, 5, value);
        }
        for (Err error : Err.values()) {
            function(36, 5, error, 5);
            function(36, error, Err.VALUE, error);
        }
        sentence("(An array is no error for 36 and 37)");
        for (int number = 36; number <= 37; number++) {
            function(number, row(Err.NONE), row(Err.NONE), 5);
            function(number, MANY, MANY, 5);
            function(number, column(Err.NONE, Err.NONE), column(Err.NONE, Err.NONE), 5);
        }
    }

    private static void ifna() {
        sentence("37 IFNA: the second if the first is an error (NONE); only that one");
        for (Object value : ALL_KINDS) {
            function(37, value == Err.NONE ? "no" : value, value, "no");
            function(37, value, Err.NONE, value);
            function(37, 5, 5, value);
        }
        for (Err error : Err.values()) {
            function(37, error == Err.NONE ? 5 : error, error, 5);
            function(37, error == Err.NONE ? Err.NULL : error, error, Err.NULL);
        }
    }

    private static void chooseChosen() {
        sentence("38 CHOOSE: argument i + 1; only that");
        for (Object value : ALL_KINDS) {
            function(38, value, 1, value);
            function(38, value, 1, value, Err.RING);
            function(38, value, 2, Err.RING, value);
            function(38, value, 7, 1, 2, 3, 4, 5, Err.RING, value);
        }
        for (int i = 1; i <= 7; i++) {
            function(38, 10 + i, i, 11, 12, 13, 14, 15, 16, 17);
            function(38, 10 + i, i + 0.999, 11, 12, 13, 14, 15, 16, 17);
        }
    }

    private static void chooseNone() {
        sentence("CHOOSE: VALUE when there is none");
        for (Object i : new Object[] {0, 0.999, -0.999, -1, BLANK, false, 1e15, -1e15, 4294967297.0, "0"}) {
            function(38, Err.VALUE, i, 11);
            function(38, Err.VALUE, i, 11, 12, 13, 14, 15, 16, 17);
        }
        for (int many = 1; many <= 7; many++) {
            Object[] told = new Object[many + 1];
            java.util.Arrays.fill(told, "x");
            told[0] = many;
            function(38, "x", told);
            told[0] = many + 1;
            function(38, Err.VALUE, told);
        }
        function(38, Err.NULL, Err.NULL, 1);
        function(38, Err.NUMBER, 9007199254740992.0, 1);
    }

    private static void ofTruths(Object and, Object or, Object xor, Object... told) {
        function(39, and, told);
        function(40, or, told);
        function(41, xor, told);
    }

    private static void truthsOfSingles() {
        sentence("39 AND, 40 OR, 41 XOR: of single ones the truth wanted");
        ofTruths(true, true, true, true);
        ofTruths(false, false, false, false);
        ofTruths(true, true, true, LEAST);
        ofTruths(false, false, false, -0.0);
        ofTruths(false, false, false, BLANK);
        ofTruths(true, true, true, "tRUe");
        ofTruths(false, false, false, "faLSE");
        ofTruths(Err.VALUE, Err.VALUE, Err.VALUE, "");
        ofTruths(Err.VALUE, Err.VALUE, Err.VALUE, "1", true);
        ofTruths(false, true, true, true, BLANK);
        ofTruths(true, true, false, 1, 1, 1, 1, 1, 1, 1, 1);
        ofTruths(false, true, true, 1, 1, 1, 0, 1, 1, 1, 1);
        ofTruths(false, true, true, 0, 0, 0, 0, 0, 0, 0, 1);
        ofTruths(false, false, false, 0, 0, 0, 0, 0, 0, 0, 0);
    }

    private static void truthsOfCells() {
        sentence("of arrays cells that are truths or numbers");
        ofTruths(true, true, true, row(true, "FALSE", "x", BLANK, ""));
        ofTruths(false, true, true, row(GREATEST, "TRUE", 0));
        ofTruths(false, false, false, column(0, false, "TRUE"));
        ofTruths(true, true, false, table(2, 1, true, "0", BLANK));
        ofTruths(true, true, true, row(BLANK, "FALSE"), 5);
        ofTruths(true, true, false, row(LEAST, -LEAST));
        ofTruths(false, true, false, row(true, true), column(false, "x"));
    }

    private static void truthsOfNone() {
        sentence("AND, OR, XOR: VALUE of none");
        ofTruths(Err.VALUE, Err.VALUE, Err.VALUE, row("x"));
        ofTruths(Err.VALUE, Err.VALUE, Err.VALUE, row("TRUE", BLANK, "1"));
        ofTruths(Err.VALUE, Err.VALUE, Err.VALUE, row(BLANK), column("", ""), row("FALSE"));
        ofTruths(false, false, false, row(BLANK), BLANK);
        ofTruths(false, false, false, row(BLANK), row(0));
        ofTruths(true, true, true, row("x"), true);
    }

    private static void truthsAndErrors() {
        sentence("(an error, single or a cell, is the answer in all three)");
        for (Err error : Err.values()) {
            ofTruths(error, error, error, error);
            ofTruths(error, error, error, false, error);
            ofTruths(error, error, error, true, error);
            ofTruths(error, error, error, row(error));
            ofTruths(error, error, error, row("x", error));
            ofTruths(error, error, error, row(false, true), row(0, error));
            ofTruths(error, error, error, error, "x");
        }
        ofTruths(Err.RING, Err.RING, Err.RING, row(1, Err.RING), Err.NULL);
        ofTruths(Err.NULL, Err.NULL, Err.NULL, Err.NULL, row(1, Err.RING));
        ofTruths(Err.VALUE, Err.VALUE, Err.VALUE, "x", row(Err.RING));
    }

    private static void xor() {
        sentence("XOR: an odd number of TRUE");
        Object[] told = new Object[8];
        java.util.Arrays.fill(told, false);
        for (int many = 1; many <= 8; many++) {
            told[many - 1] = true;
            function(41, many % 2 == 1, told);
        }
        Object[] cells = new Object[15];
        for (int many = 0; many <= 15; many++) {
            for (int k = 0; k < 15; k++) {
                cells[k] = k < many;
            }
            function(41, many % 2 == 1, table(5, cells));
            function(39, many == 15, table(5, cells));
            function(40, many > 0, table(5, cells));
        }
    }

    private static void notOfOne() {
        sentence("42 NOT 1 (l)");
        function(42, false, true);
        function(42, true, false);
        function(42, true, BLANK);
        function(42, true, -0.0);
        function(42, false, LEAST);
        function(42, false, "TRUE");
        function(42, true, "false");
        function(42, Err.VALUE, "");
        function(42, Err.VALUE, row(true, true));
    }

    private static void ofNone() {
        sentence("43 NA 0. 44 TRUE 0, 45 FALSE 0.");
        function(43, Err.NONE);
        function(44, true);
        function(45, false);
    }

    private static void areThey() {
        sentence("46 ISBLANK, 47 ISNUMBER, 48 ISTEXT, 49 ISLOGICAL, 50 ISERROR, 51 ISNA: truths");
        Object[] told = {BLANK, 0, GREATEST, "", "5", " ", true, false, Err.NULL, Err.DIVISION, Err.VALUE, Err.REFERENCE, Err.NAME,
            Err.NUMBER, Err.NONE, Err.RING};
        for (Object value : told) {
            boolean[] due = {value == BLANK, value instanceof Number, value instanceof String, value instanceof Boolean,
                value instanceof Err, value == Err.NONE};
            for (int number = 46; number <= 51; number++) {
                function(number, due[number - 46], value);
                function(number, due[number - 46], row(value));
            }
        }
    }

    private static void areTheyOfArrays() {
        sentence("an array of more cells is the error VALUE here, too, so that ISERROR is TRUE");
        for (Object many : new Object[] {row(1, 1), column(BLANK, BLANK), row(Err.NONE, Err.NONE), table(2, "a", "a", "a", "a")}) {
            for (int number = 46; number <= 51; number++) {
                function(number, number == 50, many);
            }
        }
    }

    private static void asNumber() {
        sentence("52 N: numbers, truths as numbers; 0 for others");
        function(52, GREATEST, GREATEST);
        function(52, 1, true);
        function(52, 0, false);
        function(52, 0, BLANK);
        function(52, 0, "5");
        function(52, 0, "");
        function(52, 5, row(5));
        function(52, Err.VALUE, row(5, 6));
        function(52, Err.RING, Err.RING);
    }

    private static void asText() {
        sentence("53 T: texts, no characters for others");
        function(53, "", "");
        function(53, "5", "5");
        function(53, times("x", 255), times("x", 255));
        function(53, "", 5);
        function(53, "", BLANK);
        function(53, "", true);
        function(53, "a", row("a"));
        function(53, Err.VALUE, row("a", "b"));
        function(53, Err.RING, Err.RING);
    }

    private static void type() {
        sentence("54 TYPE: 1 nothing and numbers, 2 texts, 4 truths, 16 errors, 64 arrays (of one cell, too)");
        Object[] told = {BLANK, 0, -1, "", "5", true, false};
        int[] due = {1, 1, 1, 2, 2, 4, 4};
        for (int k = 0; k < told.length; k++) {
            function(54, due[k], told[k]);
            function(54, 64, row(told[k]));
        }
        for (Err error : Err.values()) {
            function(54, 16, error);
            function(54, 64, row(error));
        }
        function(54, 64, MANY);
        function(54, 64, row(1, 2));
    }

    private static void errorType() {
        sentence("55 ERRORTYPE: the error's number; NONE for others");
        for (Err error : Err.values()) {
            function(55, error.ordinal() + 1, error);
            function(55, error.ordinal() + 1, row(error));
        }
        for (Object value : new Object[] {BLANK, 0, 1, "", "x", true, false, row(5)}) {
            function(55, Err.NONE, value);
        }
        sentence("ERRORTYPE of an array of more cells: the error VALUE that it is where a single value is wanted");
        function(55, 3, row(5, 6));
        function(55, 3, column(Err.RING, Err.RING));
    }
}

/** The functions 56 to 73, sentence by sentence, where the document names a boundary. */
public final class EdgesOfWordingTest extends Bench {
    private static final double WHOLE = 9007199254740991.0;
    private static final String LONGEST = times("a", 255);

    private EdgesOfWordingTest() {
    }

    public static void main(String[] args) {
        length();
        sides();
        middle();
        casts();
        proper();
        trim();
        concatenate();
        repeat();
        substitute();
        substituteOne();
        substituteLong();
        replace();
        find();
        search();
        findFrom();
        exact();
        character();
        code();
        value();
        end("EdgesOfWordingTest");
    }

    private static void length() {
        sentence("56 LEN");
        function(56, 0, "");
        function(56, 0, BLANK);
        function(56, 1, " ");
        function(56, 254, times("a", 254));
        function(56, 255, LONGEST);
    }

    private static void sides() {
        sentence("57 LEFT, 58 RIGHT: so many characters, 1 without; VALUE below 0");
        function(57, "a", "abc");
        function(58, "c", "abc");
        function(57, "", "");
        function(58, "", "");
        String[] left = {"", "a", "ab", "abc"};
        String[] right = {"", "c", "bc", "abc"};
        for (int many = 0; many <= 3; many++) {
            function(57, left[many], "abc", many);
            function(58, right[many], "abc", many);
            function(57, left[many], "abc", many + 0.999);
            function(58, right[many], "abc", many + 0.999);
        }
        for (int number = 57; number <= 58; number++) {
            for (double many : new double[] {-1, -1.5, -2, -WHOLE, -4294967295.0}) {
                function(number, Err.VALUE, "abc", many);
                function(number, Err.VALUE, "", many);
            }
            function(number, "", "abc", -0.999);
            sentence("(of more characters than there are all of them)");
            for (double many : new double[] {4, 255, 256, 2147483648.0, 4294967296.0, WHOLE}) {
                function(number, "abc", "abc", many);
                function(number, "", "", many);
            }
            function(number, LONGEST, LONGEST, 255);
            function(number, times("a", 254), LONGEST, 254);
        }
    }

    private static void middle() {
        sentence("59 MID: from place i (1 the first), so many; VALUE for a place below 1 or a number below 0");
        function(59, "a", "abc", 1, 1);
        function(59, "c", "abc", 3, 1);
        function(59, "abc", "abc", 1, 3);
        function(59, "", "abc", 1, 0);
        for (double place : new double[] {0, 0.999, -1, -WHOLE}) {
            function(59, Err.VALUE, "abc", place, 1);
            function(59, Err.VALUE, "", place, 0);
        }
        for (double many : new double[] {-1, -2, -WHOLE}) {
            function(59, Err.VALUE, "abc", 1, many);
            function(59, Err.VALUE, "abc", 9, many);
        }
        function(59, "a", "abc", 1.999, 1.999);
        function(59, "", "abc", 2, -0.999);
        sentence("(of more characters than there are all of them; a place behind the end is the end)");
        function(59, "abc", "abc", 1, 4);
        function(59, "c", "abc", 3, 2);
        function(59, "c", "abc", 3, WHOLE);
        function(59, "", "abc", 4, 0);
        function(59, "", "abc", 4, 1);
        function(59, "", "abc", 5, 9);
        function(59, "", "abc", WHOLE, WHOLE);
        function(59, "", "abc", 4294967297.0, 1);
        function(59, "a", "abc", 1, 4294967297.0 - 4294967296.0);
        function(59, "", "", 1, 1);
        function(59, "a", LONGEST, 255, 9);
        function(59, "", LONGEST, 256, 9);
    }

    private static void casts() {
        sentence("60 UPPER, 61 LOWER: letters great, small");
        function(60, "AZAZ", "azAZ");
        function(61, "azaz", "azAZ");
        function(60, "@[`{", "@[`{");
        function(61, "@[`{", "@[`{");
        function(60, "", "");
        function(61, "", "");
        function(60, times("A", 255), LONGEST);
        function(61, LONGEST, times("A", 255));
        function(60, " !0~", " !0~");
        function(61, " !0~", " !0~");
    }

    private static void proper() {
        sentence("62 PROPER: great behind no letter");
        function(62, "A", "a");
        function(62, "", "");
        function(62, "Ab", "ab");
        function(62, "Ab", "aB");
        function(62, "A B", "a b");
        function(62, "1A", "1a");
        function(62, "A1B", "a1b");
        function(62, "@Z[A`Z{A", "@z[a`z{a");
        function(62, "Zz Aa", "ZZ AA");
        function(62, "A" + times("a", 254), LONGEST);
    }

    private static void trim() {
        sentence("63 TRIM: without spaces in front, behind, and one where several are");
        function(63, "", "");
        function(63, "", " ");
        function(63, "", times(" ", 255));
        function(63, "a", " a");
        function(63, "a", "a ");
        function(63, "a b", "a b");
        function(63, "a b", "a  b");
        function(63, "a b c", "  a   b    c  ");
        function(63, "one two three", "one two  three");
        function(63, "one two three", " one   two three ");
        function(63, "x", times(" ", 254) + "x");
        function(63, "x", "x" + times(" ", 254));
        function(63, "x y", "x" + times(" ", 253) + "y");
    }

    private static void concatenate() {
        sentence("64 CONCATENATE (Texts above 255 characters are the error VALUE.)");
        function(64, "", "");
        function(64, LONGEST, LONGEST);
        function(64, LONGEST, times("a", 254), "a");
        function(64, Err.VALUE, LONGEST, "a");
        function(64, Err.VALUE, "a", LONGEST);
        function(64, LONGEST, "", LONGEST, "", BLANK, "");
        function(64, LONGEST, times("a", 248), "a", "a", "a", "a", "a", "a", "a");
        function(64, Err.VALUE, times("a", 249), "a", "a", "a", "a", "a", "a", "a");
        function(64, Err.VALUE, LONGEST, LONGEST, LONGEST, LONGEST, LONGEST, LONGEST, LONGEST, LONGEST);
    }

    private static void repeat() {
        sentence("65 REPT: so many times; VALUE below 0 (Texts above 255 characters are the error VALUE.)");
        function(65, "", "ab", 0);
        function(65, "", "ab", -0.999);
        function(65, "ab", "ab", 1);
        function(65, "ab", "ab", 1.999);
        for (double many : new double[] {-1, -2, -WHOLE}) {
            function(65, Err.VALUE, "ab", many);
            function(65, Err.VALUE, "", many);
        }
        function(65, LONGEST, "a", 255);
        function(65, Err.VALUE, "a", 256);
        function(65, LONGEST, "aaa", 85);
        function(65, Err.VALUE, "aaa", 86);
        function(65, times("a", 254), "aa", 127);
        function(65, Err.VALUE, "aa", 128);
        function(65, LONGEST, LONGEST, 1);
        function(65, Err.VALUE, LONGEST, 2);
        for (double many : new double[] {2147483648.0, 4294967296.0, 4294967297.0, WHOLE}) {
            function(65, Err.VALUE, "a", many);
            function(65, Err.VALUE, LONGEST, many);
            function(65, "", "", many);
        }
    }

    private static void substitute() {
        sentence("66 SUBSTITUTE: each place of the second, from the left, not overlapping, replaced by the third");
        function(66, "b", "a", "a", "b");
        function(66, "", "a", "a", "");
        function(66, "bxb", "axa", "a", "b");
        function(66, "ba", "aaa", "aa", "b");
        function(66, "bb", "aaaa", "aa", "b");
        function(66, "xba", "ababa", "aba", "x");
        function(66, "aaa", "aaa", "aaaa", "x");
        function(66, "aba", "aba", "A", "x");
        function(66, "", "", "a", "x");
        function(66, "aa", "a", "a", "aa");
        sentence("an empty second is nowhere");
        function(66, "abc", "abc", "", "x");
        function(66, "abc", "abc", BLANK, "x");
        function(66, "abc", "abc", "", "x", 1);
        function(66, "", "", "", "x");
        function(66, LONGEST, LONGEST, "", "x");
    }

    private static void substituteOne() {
        sentence("or the i-th alone (VALUE below 1)");
        function(66, "xaa", "aaa", "a", "x", 1);
        function(66, "axa", "aaa", "a", "x", 2);
        function(66, "aax", "aaa", "a", "x", 3);
        function(66, "aax", "aaa", "a", "x", 3.999);
        for (double i : new double[] {4, 255, 4294967297.0, WHOLE}) {
            function(66, "aaa", "aaa", "a", "x", i);
        }
        for (double i : new double[] {0, 0.999, -0.999, -1, -WHOLE}) {
            function(66, Err.VALUE, "aaa", "a", "x", i);
            function(66, Err.VALUE, "aaa", "", "x", i);
            function(66, Err.VALUE, "", "a", "x", i);
        }
        function(66, "aaxa", "aaaaa", "aa", "x", 2);
        function(66, "aaaaa", "aaaaa", "aa", "x", 3);
        function(66, "x", "ab", "ab", "x", 1);
    }

    private static void substituteLong() {
        sentence("SUBSTITUTE (Texts above 255 characters are the error VALUE.)");
        function(66, LONGEST, times("a", 254) + "b", "b", "a");
        function(66, LONGEST, times("a", 253) + "b", "b", "aa");
        function(66, Err.VALUE, times("a", 254) + "b", "b", "aa");
        function(66, Err.VALUE, "b" + times("a", 254), "b", "aa");
        function(66, Err.VALUE, LONGEST, "a", "bb");
        function(66, Err.VALUE, LONGEST, "a", "bb", 255);
        function(66, LONGEST, LONGEST, "a", "bb", 256);
        function(66, Err.VALUE, LONGEST, "a", LONGEST);
        function(66, "", LONGEST, "a", "");
        function(66, "", LONGEST, LONGEST, "");
        function(66, LONGEST, LONGEST, LONGEST, LONGEST);
        function(66, times("b", 254), times("a", 127), "a", "bb");
        function(66, Err.VALUE, times("a", 128), "a", "bb");
    }

    private static void replace() {
        sentence("67 REPLACE: so many characters from a place on by the text; VALUE as for MID");
        function(67, "Xbc", "abc", 1, 1, "X");
        function(67, "abX", "abc", 3, 1, "X");
        function(67, "Xabc", "abc", 1, 0, "X");
        function(67, "X", "abc", 1, 3, "X");
        function(67, "", "abc", 1, 3, "");
        for (double place : new double[] {0, 0.999, -1, -WHOLE}) {
            function(67, Err.VALUE, "abc", place, 1, "X");
        }
        for (double many : new double[] {-1, -2, -WHOLE}) {
            function(67, Err.VALUE, "abc", 1, many, "X");
        }
        function(67, "Xabc", "abc", 1.999, -0.999, "X");
        sentence("REPLACE (of more characters than there are all of them; a place behind the end is the end)");
        function(67, "X", "abc", 1, 4, "X");
        function(67, "abX", "abc", 3, 2, "X");
        function(67, "abX", "abc", 3, WHOLE, "X");
        function(67, "abcX", "abc", 4, 0, "X");
        function(67, "abcX", "abc", 4, 1, "X");
        function(67, "abcX", "abc", 5, 1, "X");
        function(67, "abcX", "abc", WHOLE, WHOLE, "X");
        function(67, "abcX", "abc", 4294967297.0, 1, "X");
        function(67, "X", "", 1, 0, "X");
        sentence("REPLACE (Texts above 255 characters are the error VALUE.)");
        function(67, LONGEST, times("a", 254), 1, 0, "a");
        function(67, Err.VALUE, LONGEST, 1, 0, "a");
        function(67, LONGEST, LONGEST, 1, 1, "a");
        function(67, Err.VALUE, LONGEST, 256, 1, "a");
        function(67, LONGEST, LONGEST, 256, 1, "");
        function(67, LONGEST, LONGEST, 1, 255, LONGEST);
        function(67, Err.VALUE, LONGEST, 1, 254, LONGEST);
    }

    private static void find() {
        sentence("68 FIND: the first place from i (1 without) on where the first stands in the second; VALUE if there is none");
        function(68, 1, "a", "a");
        function(68, 1, "a", "aa");
        function(68, 2, "a", "ba");
        function(68, 1, "aa", "aa");
        function(68, Err.VALUE, "aaa", "aa");
        function(68, Err.VALUE, "a", "");
        function(68, Err.VALUE, "A", "a");
        function(68, Err.VALUE, "?", "a");
        function(68, Err.VALUE, "*", "a");
        function(68, 2, "~", "a~");
        function(68, 2, "ab", "aab");
        function(68, 255, "b", times("a", 254) + "b");
        function(68, 1, LONGEST, LONGEST);
        function(68, Err.VALUE, "ab", "ba");
    }

    private static void search() {
        sentence("69 SEARCH: where some characters from there on are like it; VALUE if there is none");
        function(69, 1, "A", "a");
        function(69, 2, "?b", "aab");
        function(69, Err.VALUE, "?", "");
        function(69, 1, "a*b", "axxb");
        function(69, 1, "a*b", "ab");
        function(69, Err.VALUE, "a*b", "a");
        function(69, 3, "~*", "ab*");
        function(69, 3, "~?", "ab?");
        function(69, 3, "~~", "ab~");
        function(69, 3, "~", "ab~");
        function(69, Err.VALUE, "~?", "ab");
        function(69, Err.VALUE, "???", "ab");
        function(69, 1, "??", "ab");
        function(69, 255, "B", times("a", 254) + "b");
        function(69, 1, LONGEST, LONGEST);
        function(69, 1, times("?", 255), LONGEST);
        function(69, 1, "*a", "ba");
    }

    private static void findFrom() {
        sentence("FIND, SEARCH: VALUE if i is not 1 .. the length and 1");
        for (int number = 68; number <= 69; number++) {
            function(number, 1, "a", "aba");
            function(number, 1, "a", "aba", 1);
            function(number, 3, "a", "aba", 2);
            function(number, 3, "a", "aba", 3);
            function(number, 3, "a", "aba", 3.999);
            function(number, Err.VALUE, "a", "aba", 4);
            function(number, Err.VALUE, "b", "aba", 3);
            for (double i : new double[] {0, 0.999, -0.999, -1, 5, 256, -WHOLE, WHOLE, 4294967297.0}) {
                function(number, Err.VALUE, "a", "aba", i);
                function(number, Err.VALUE, "", "aba", i);
            }
            for (int i = 1; i <= 4; i++) {
                function(number, i, "", "aba", i);
            }
            function(number, 1, "", "");
            function(number, 1, "", "", 1);
            function(number, Err.VALUE, "", "", 2);
            function(number, 256, "", LONGEST, 256);
            function(number, Err.VALUE, "", LONGEST, 257);
            function(number, 255, "a", LONGEST, 255);
        }
    }

    private static void exact() {
        sentence("70 EXACT: whether they are the same, small and great letters being different");
        function(70, true, "", "");
        function(70, true, "aZ", "aZ");
        function(70, false, "aZ", "az");
        function(70, false, "a", "");
        function(70, false, "a", "a ");
        function(70, true, LONGEST, LONGEST);
        function(70, false, LONGEST, times("a", 254) + "b");
        function(70, false, LONGEST, times("a", 254));
    }

    private static void character() {
        sentence("71 CHAR: 32 .. 126, VALUE if not");
        for (int code = 32; code <= 126; code++) {
            function(71, String.valueOf((char) code), code);
        }
        for (double code : new double[] {31, 31.999, 127, 128, 0, -1, -32, 255, 256 + 65, 65536 + 65, 4294967296.0 + 65, WHOLE, -WHOLE}) {
            function(71, Err.VALUE, code);
        }
        function(71, "~", 126.999);
        function(71, Err.NUMBER, 9007199254740992.0);
    }

    private static void code() {
        sentence("72 CODE: the first character's number, VALUE of none");
        for (int code = 32; code <= 126; code++) {
            function(72, code, String.valueOf((char) code));
        }
        function(72, 97, "abc");
        function(72, 97, LONGEST);
        function(72, Err.VALUE, "");
        function(72, Err.VALUE, BLANK);
        function(72, 45, -5);
    }

    private static void value() {
        sentence("73 VALUE: its numeral, VALUE if it is none");
        function(73, 999999999999999.0, "999999999999999");
        function(73, Err.VALUE, "1234567890123456");
        function(73, Err.VALUE, "");
        function(73, Err.VALUE, BLANK);
        function(73, Err.VALUE, " ");
        function(73, Err.VALUE, true);
        function(73, 5, row(5));
        function(73, 999999999999999.0, 999999999999999.0);
        function(73, Err.VALUE, 1e15);
        function(73, Err.VALUE, 999999999999999.5);
        function(73, 999999.999999999, 999999.999999999);
        function(73, 1234568, 1234567.75);
        function(73, 0, 0.0000000004);
        function(73, 0, -0.0000000004);
    }
}

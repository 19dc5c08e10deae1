/** Promise 8: the functions 56 to 73. */
public final class WordingTest extends Bench {
    private static final String LONGEST = times("a", 255);

    private WordingTest() {
    }

    public static void main(String[] args) {
        wanted();
        f56Len();
        f57Left();
        f58Right();
        f59Mid();
        f60UpperF61LowerF62Proper();
        f63Trim();
        f64Concatenate();
        f65Rept();
        f66Substitute();
        f67Replace();
        f68Find();
        f69Search();
        f70Exact();
        f71Char();
        f72Code();
        f73Value();
        end("WordingTest");
    }

    private static void wanted() {
        for (int number : new int[] {56, 57, 58, 60, 61, 62, 63, 64, 72}) {
            wantsSingle(number, 0, "a");
            function(number, Err.VALUE, 1e15);
        }
        for (int place = 0; place < 2; place++) {
            wantsSingle(64, place, "a", "b");
            wantsSingle(68, place, "a", "ba");
            wantsSingle(69, place, "a", "ba");
            wantsSingle(70, place, "a", "b");
        }
        wantsSingle(59, 0, "abc", 1, 2);
        wantsSingle(65, 0, "abc", 1);
        wantsWhole(57, 1, "abc", 1);
        wantsWhole(58, 1, "abc", 1);
        wantsWhole(59, 1, "abc", 1, 2);
        wantsWhole(59, 2, "abc", 1, 2);
        wantsWhole(65, 1, "abc", 1);
        wantsWhole(66, 3, "abc", "a", "b", 1);
        wantsWhole(67, 1, "abc", 1, 1, "x");
        wantsWhole(67, 2, "abc", 1, 1, "x");
        wantsWhole(68, 2, "a", "aa", 1);
        wantsWhole(69, 2, "a", "aa", 1);
        wantsWhole(71, 0, 65);
        for (int place = 0; place < 3; place++) {
            wantsSingle(66, place, "abc", "b", "c", 1);
        }
        wantsSingle(67, 0, "abc", 0, 1, "x");
        wantsSingle(67, 3, "abc", 0, 1, "x");
    }

    private static void f56Len() {
        function(56, 3, "abc");
        function(56, 0, "");
        function(56, 0, BLANK);
        function(56, 4, true);
        function(56, 5, false);
        function(56, 3, 0.5);
        function(56, 255, LONGEST);
        function(56, 2, row("ab"));
    }

    private static void f57Left() {
        function(57, "a", "abc");
        function(57, "", "");
        function(57, "", "abc", 0);
        function(57, "ab", "abc", 2);
        function(57, "abc", "abc", 3);
        function(57, "abc", "abc", 4);
        function(57, "abc", "abc", 1e15);
        function(57, "ab", "abc", 2.9);
        function(57, Err.VALUE, "abc", -1);
        function(57, "12", 123, 2);
        function(57, "F", false);
        function(57, "", BLANK, 5);
    }

    private static void f58Right() {
        function(58, "c", "abc");
        function(58, "", "");
        function(58, "", "abc", 0);
        function(58, "bc", "abc", 2);
        function(58, "abc", "abc", 3);
        function(58, "abc", "abc", 4);
        function(58, "abc", "abc", 1e15);
        function(58, Err.VALUE, "abc", -1);
        function(58, "23", 123, 2);
    }

    private static void f59Mid() {
        function(59, "bc", "abcd", 2, 2);
        function(59, "abcd", "abcd", 1, 4);
        function(59, "bcd", "abcd", 2, 9);
        function(59, "d", "abcd", 4, 1);
        function(59, "", "abcd", 5, 1);
        function(59, "", "abcd", 1e15, 1e15);
        function(59, "", "abcd", 2, 0);
        function(59, Err.VALUE, "abcd", 0, 1);
        function(59, Err.VALUE, "abcd", 0.9, 1);
        function(59, Err.VALUE, "abcd", 1, -1);
        function(59, "a", "abcd", true, true);
        function(59, "", "", 1, 1);
    }

    private static void f60UpperF61LowerF62Proper() {
        function(60, "AB C[`{1", "aB c[`{1");
        function(61, "ab c@[z1", "AB C@[Z1");
        function(60, "TRUE", true);
        function(61, "false", false);
        function(62, "The Quick", "the qUICK");
        function(62, "A1B2-C'D", "a1b2-c'd");
        function(62, " X", " x");
        function(62, "Aaa Zzz `A [Z", "aAa zZz `a [z");
        function(62, "True", true);
        for (int number = 60; number <= 62; number++) {
            function(number, "", BLANK);
            function(number, "12", 12);
        }
        function(60, LONGEST.toUpperCase(), LONGEST);
    }

    private static void f63Trim() {
        function(63, "a b c", "  a   b c ");
        function(63, "", "   ");
        function(63, "", "");
        function(63, "a", "a");
        function(63, "a b", "a b");
        function(63, "5", 5);
        function(63, "x", times(" ", 254) + "x");
    }

    private static void f64Concatenate() {
        function(64, "a", "a");
        function(64, "abc", "a", "b", "c");
        function(64, "a1TRUE0.5", "a", 1, BLANK, true, 0.5);
        function(64, "12345678", 1, 2, 3, 4, 5, 6, 7, 8);
        function(64, LONGEST, times("a", 100), times("a", 100), times("a", 55));
        function(64, Err.VALUE, times("a", 100), times("a", 100), times("a", 56));
        function(64, Err.VALUE, LONGEST, LONGEST, LONGEST, LONGEST, LONGEST, LONGEST, LONGEST, LONGEST);
        function(64, Err.NAME, LONGEST, LONGEST, Err.NAME);
        function(64, LONGEST, LONGEST, "", BLANK);
    }

    private static void f65Rept() {
        function(65, "ababab", "ab", 3);
        function(65, "", "ab", 0);
        function(65, "", "", 5);
        function(65, "", "", 9007199254740991.0);
        function(65, "", BLANK, 300);
        function(65, "ab", "ab", 1.9);
        function(65, Err.VALUE, "ab", -1);
        function(65, Err.VALUE, "", -1);
        function(65, LONGEST, "a", 255);
        function(65, Err.VALUE, "a", 256);
        function(65, times("abc", 85), "abc", 85);
        function(65, Err.VALUE, "ab", 128);
        function(65, Err.VALUE, "ab", 9007199254740991.0);
        function(65, Err.VALUE, LONGEST, 9007199254740991.0);
        function(65, Err.VALUE, LONGEST, 2);
        function(65, "", LONGEST, 0);
        function(65, "111", 1, 3);
    }

    private static void f66Substitute() {
        function(66, "xbxb", "abab", "a", "x");
        function(66, "abab", "abab", "A", "x");
        function(66, "xbab", "abab", "a", "x", 1);
        function(66, "abxb", "abab", "a", "x", 2);
        function(66, "abab", "abab", "a", "x", 3);
        function(66, "abab", "abab", "a", "x", 1e15);
        function(66, Err.VALUE, "abab", "a", "x", 0);
        function(66, Err.VALUE, "abab", "", "x", -1);
        function(66, "xa", "aaa", "aa", "x");
        function(66, "aaa", "aaa", "aa", "x", 2);
        function(66, "aax", "aaaa", "aa", "x", 2);
        function(66, "abc", "abc", "", "x");
        function(66, "abc", "abc", BLANK, "x", 1);
        function(66, "", "", "a", "x");
        function(66, "bb", "abab", "a", "");
        function(66, "b", "ab", "a", BLANK);
        function(66, "aa?", "aa?", "a?b", "x");
        function(66, "aax", "aa*", "*", "x");
        function(66, LONGEST.replace('a', 'b'), LONGEST, "a", "b");
        function(66, times("bb", 127) + "b", times("a", 127) + "b", "a", "bb");
        function(66, Err.VALUE, times("a", 128), "a", "bb");
        function(66, Err.VALUE, LONGEST, "a", LONGEST);
        function(66, "", LONGEST, LONGEST, "");
        function(66, Err.NAME, LONGEST, "a", LONGEST, Err.NAME);
        function(66, "x2", 12, 1, "x");
        function(66, "aab", "aaab", "aa", "a");
    }

    private static void f67Replace() {
        function(67, "aXXd", "abcd", 2, 2, "XX");
        function(67, "aXbcd", "abcd", 2, 0, "X");
        function(67, "X", "abcd", 1, 4, "X");
        function(67, "abX", "abcd", 3, 99, "X");
        function(67, "abcdX", "abcd", 5, 1, "X");
        function(67, "abcdX", "abcd", 1e15, 1e15, "X");
        function(67, "acd", "abcd", 2, 1, "");
        function(67, "X", "", 1, 1, "X");
        function(67, Err.VALUE, "abcd", 0, 1, "X");
        function(67, Err.VALUE, "abcd", 1, -1, "X");
        function(67, Err.NAME, "abcd", 0, -1, Err.NAME);
        function(67, Err.VALUE, LONGEST, 1, 0, "b");
        function(67, "b" + times("a", 254), LONGEST, 1, 1, "b");
        function(67, "1TRUE3", 123, 2, 1, true);
    }

    private static void f68Find() {
        function(68, 1, "a", "banana".substring(1));
        function(68, 2, "a", "banana");
        function(68, 4, "a", "banana", 3);
        function(68, 2, "a", "banana", 2);
        function(68, Err.VALUE, "A", "banana");
        function(68, Err.VALUE, "x", "banana");
        function(68, Err.VALUE, "?", "banana");
        function(68, 3, "?", "ab?");
        function(68, 1, "", "banana");
        function(68, 4, "", "banana", 4);
        function(68, 7, "", "banana", 7);
        function(68, 1, "", "");
        function(68, Err.VALUE, "", "banana", 8);
        function(68, Err.VALUE, "a", "banana", 7);
        function(68, Err.VALUE, "a", "banana", 0);
        function(68, Err.VALUE, "a", "banana", -1);
        function(68, Err.VALUE, "a", "banana", 1e15);
        function(68, Err.VALUE, "banana", "ana");
        function(68, 2, 2, 123);
        function(68, 3, "na", "banana", 2.9);
        function(68, 255, "b", times("a", 254) + "b");
    }

    private static void f69Search() {
        function(69, 2, "A", "banana");
        function(69, 1, "b?n", "BANANA");
        function(69, 2, "a*n", "banana");
        function(69, 1, "*n", "banana");
        function(69, 3, "*n", "banana", 3);
        function(69, 1, "*", "banana");
        function(69, 7, "*", "banana", 7);
        function(69, Err.VALUE, "?", "banana", 7);
        function(69, 6, "?", "banana", 6);
        function(69, Err.VALUE, "x*", "banana");
        function(69, 3, "~?", "ab?");
        function(69, 3, "~*", "ab*c");
        function(69, 2, "~", "a~b");
        function(69, 2, "~~", "a~b");
        function(69, 2, "~b", "a~b");
        function(69, 1, "", "banana");
        function(69, 7, "", "banana", 7);
        function(69, Err.VALUE, "", "banana", 8);
        function(69, Err.VALUE, "a", "banana", 0);
        function(69, 4, "a", "banana", 3);
        function(69, 3, "t*k", "xxtaaak");
        function(69, Err.VALUE, "t*k", "xxtaaa");
        function(69, 1, times("a*", 127) + "a", LONGEST);
        function(69, Err.VALUE, times("a*", 127) + "b", LONGEST);
        function(69, 2, 2, 123);
    }

    private static void f70Exact() {
        function(70, true, "abc", "abc");
        function(70, false, "abc", "Abc");
        function(70, true, "", BLANK);
        function(70, true, "1", 1);
        function(70, true, "TRUE", true);
        function(70, false, "true", true);
        function(70, false, "a*", "ab");
    }

    private static void f71Char() {
        function(71, " ", 32);
        function(71, "A", 65);
        function(71, "~", 126.9);
        function(71, Err.VALUE, 31);
        function(71, Err.VALUE, 31.9);
        function(71, Err.VALUE, 127);
        function(71, Err.VALUE, 0);
        function(71, Err.VALUE, -65);
        function(71, Err.VALUE, 65536 + 65);
        function(71, Err.VALUE, 4294967296.0 + 65);
    }

    private static void f72Code() {
        function(72, 65, "A");
        function(72, 97, "abc");
        function(72, 32, " ");
        function(72, 49, 12);
        function(72, 84, true);
        function(72, Err.VALUE, "");
        function(72, Err.VALUE, BLANK);
    }

    private static void f73Value() {
        function(73, 12.5, " 12.5 ");
        function(73, 0.125, "12.5%");
        function(73, -3, "-3");
        function(73, 5, 5);
        function(73, 0.333333333, 1.0 / 3);
        function(73, 0, -1e-12);
        function(73, Err.VALUE, "x");
        function(73, Err.VALUE, "");
        function(73, Err.VALUE, BLANK);
        function(73, Err.VALUE, true);
        function(73, Err.VALUE, 1e15);
        wantsSingle(73, 0, "1");
    }
}

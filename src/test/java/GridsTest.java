import java.math.BigDecimal;
import java.math.BigInteger;
import java.util.ArrayList;
import java.util.Arrays;
import java.util.List;
import java.util.regex.Matcher;
import java.util.regex.Pattern;

/** Every small case of a kind, held against what the Java library reckons. */
public final class GridsTest extends Bench {
    private static final int FIRST_LETTER = 32;
    private static final int LAST_LETTER = 126;

    private GridsTest() {
    }

    public static void main(String[] args) {
        powers();
        divisors();
        wholeDivisions();
        quarters();
        products();
        characters();
        singleCharacters();
        likenesses();
        parts();
        places();
        numerals();
        writtenNumbers();
        rows();
        matches();
        indexes();
        truths();
        end("GridsTest");
    }

    private static void powers() {
        for (int base = -12; base <= 12; base++) {
            for (int exponent = -8; exponent <= 8; exponent++) {
                Object due = powerOf(base, exponent);
                function(22, due, base, exponent);
                operator(2, due, base, exponent);
            }
        }
    }

    private static Object powerOf(int base, int exponent) {
        if (base == 0 && exponent <= 0) {
            return exponent == 0 ? Err.NUMBER : Err.DIVISION;
        }
        double size = BigInteger.valueOf(base).pow(Math.abs(exponent)).doubleValue();
        return exponent < 0 ? 1 / size : size;
    }

    private static void divisors() {
        for (int x = -2; x <= 40; x++) {
            for (int y = -2; y <= 40; y++) {
                int common = BigInteger.valueOf(x).gcd(BigInteger.valueOf(y)).intValue();
                boolean below = x < 0 || y < 0;
                function(25, below ? Err.NUMBER : common, x, y);
                function(26, below ? Err.NUMBER : common == 0 ? 0 : x * y / common, x, y);
            }
        }
    }

    private static void wholeDivisions() {
        for (int x = -25; x <= 25; x++) {
            for (int y = -7; y <= 7; y++) {
                boolean refused = x > 0 && y < 0;
                function(23, y == 0 ? Err.DIVISION : Math.floorMod(x, y), x, y);
                function(24, y == 0 ? Err.DIVISION : x / y, x, y);
                function(31, y == 0 ? 0 : refused ? Err.NUMBER : y * -Math.floorDiv(-x, y), x, y);
                function(32, y == 0 ? x == 0 ? 0 : Err.DIVISION : refused ? Err.NUMBER : y * Math.floorDiv(x, y), x, y);
            }
        }
    }

    private static void quarters() {
        for (int k = -50; k <= 50; k++) {
            double x = k / 4.0;
            double size = Math.abs(x);
            function(19, size, x);
            function(20, Integer.signum(k), x);
            function(21, Math.floor(x), x);
            function(29, Math.signum(x) * 2 * Math.ceil(size / 2), x);
            function(30, k == 0 ? 1 : Math.signum(x) * (2 * Math.ceil((size - 1) / 2) + 1), x);
            for (int places = -2; places <= 2; places++) {
                BigDecimal exact = new BigDecimal(x);
                function(33, exact.setScale(places, java.math.RoundingMode.DOWN).doubleValue(), x, places);
                function(34, exact.setScale(places, java.math.RoundingMode.HALF_UP).doubleValue(), x, places);
            }
        }
    }

    private static void products() {
        double product = 1;
        for (int n = 0; n <= 170; n++) {
            product = n == 0 ? 1 : product * n;
            function(27, product, n);
        }
        long[] before = {};
        for (int m = 0; m <= 40; m++) {
            long[] line = new long[m + 1];
            for (int k = 0; k <= m; k++) {
                line[k] = k == 0 || k == m ? 1 : before[k - 1] + before[k];
                function(28, line[k], m, k);
            }
            function(28, Err.NUMBER, m, -1);
            function(28, Err.NUMBER, m, m + 1);
            before = line;
        }
    }

    private static boolean isSame(char first, char second) {
        return Character.toUpperCase(first) == Character.toUpperCase(second);
    }

    /** Each character against each. */
    private static void characters() {
        for (char a = FIRST_LETTER; a <= LAST_LETTER; a++) {
            for (char b = FIRST_LETTER; b <= LAST_LETTER; b++) {
                String cell = String.valueOf(a);
                String other = String.valueOf(b);
                boolean like = b == '?' || b == '*' || isSame(a, b);
                int order = Character.toUpperCase(a) - Character.toUpperCase(b);
                function(70, a == b, cell, other);
                function(68, a == b ? 1 : Err.VALUE, other, cell);
                function(69, like ? 1 : Err.VALUE, other, cell);
                function(77, like ? 1 : Err.NONE, other, cell, 0);
                function(77, order <= 0 ? 1 : Err.NONE, other, cell, 1);
                // A digit alone is a number, and no text stands so to it.
                function(16, like && !Character.isDigit(b) ? 1 : 0, cell, "=" + other);
                function(16, like && !Character.isDigit(b) ? 0 : 1, cell, "<>" + other);
                operator(8, order == 0, cell, other);
                operator(10, order < 0, cell, other);
                operator(13, order >= 0, cell, other);
            }
        }
    }

    private static void singleCharacters() {
        for (char c = FIRST_LETTER; c <= LAST_LETTER; c++) {
            String alone = String.valueOf(c);
            function(60, alone.toUpperCase(), alone);
            function(61, alone.toLowerCase(), alone);
            function(62, alone.toUpperCase(), alone);
            // Only behind a letter a letter becomes small.
            function(62, alone.toUpperCase() + (Character.isLetter(c) ? "qq" : "Qq"), alone + "qQ");
            function(63, alone.strip(), alone);
            function(71, alone, (int) c);
            function(72, (int) c, alone);
            function(73, Character.isDigit(c) ? c - '0' : Err.VALUE, alone);
        }
    }

    private static List<String> texts(String letters, int longest) {
        List<String> all = new ArrayList<>(List.of(""));
        for (int k = 0; k < all.size() && all.get(k).length() < longest; k++) {
            for (char c : letters.toCharArray()) {
                all.add(all.get(k) + c);
            }
        }
        return all;
    }

    private static Pattern pattern(String told) {
        StringBuilder made = new StringBuilder();
        for (int k = 0; k < told.length(); k++) {
            char c = told.charAt(k);
            if (c == '~' && k + 1 < told.length() && "?*~".indexOf(told.charAt(k + 1)) >= 0) {
                k++;
                made.append(Pattern.quote(told.substring(k, k + 1)));
            } else {
                made.append(c == '?' ? "." : c == '*' ? ".*" : Pattern.quote(told.substring(k, k + 1)));
            }
        }
        return Pattern.compile(made.toString(), Pattern.CASE_INSENSITIVE);
    }

    private static void likenesses() {
        for (String told : texts("a?*~", 3)) {
            Pattern pattern = pattern(told);
            for (String cell : texts("Ab?~", 3)) {
                Matcher matcher = pattern.matcher(cell);
                function(16, matcher.matches() ? 1 : 0, cell, "=" + told);
                function(77, matcher.matches() ? 1 : Err.NONE, told, cell, 0);
                function(69, matcher.reset().find() ? matcher.start() + 1 : Err.VALUE, told, cell);
            }
        }
    }

    /** So many characters from a place on. */
    private static void parts() {
        for (String text : new String[] {"", "a", "ab", "abcd"}) {
            int length = text.length();
            for (int many = -1; many <= 6; many++) {
                int taken = Math.max(0, Math.min(many, length));
                function(57, many < 0 ? Err.VALUE : text.substring(0, taken), text, many);
                function(58, many < 0 ? Err.VALUE : text.substring(length - taken), text, many);
                function(65, many < 0 ? Err.VALUE : text.repeat(Math.max(0, many)), text, many);
                for (int place = -1; place <= 6; place++) {
                    boolean refused = place < 1 || many < 0;
                    int from = Math.max(0, Math.min(place - 1, length));
                    int to = Math.max(0, Math.min(from + many, length));
                    function(59, refused ? Err.VALUE : text.substring(from, to), text, place, many);
                    function(67, refused ? Err.VALUE : text.substring(0, from) + "xy" + text.substring(to),
                            text, place, many, "xy");
                }
            }
        }
    }

    /** Where a text stands in another, and what is put in its place. */
    private static void places() {
        for (String part : texts("ab", 2)) {
            for (String whole : texts("ab", 4)) {
                for (int from = 0; from <= whole.length() + 2; from++) {
                    int place = from < 1 || from > whole.length() + 1 ? -1 : whole.indexOf(part, from - 1);
                    function(68, place < 0 ? Err.VALUE : place + 1, part, whole, from);
                    function(69, place < 0 ? Err.VALUE : place + 1, part, whole, from);
                }
                function(66, part.isEmpty() ? whole : whole.replace(part, "bab"), whole, part, "bab");
                for (int only = 0; only <= 3; only++) {
                    function(66, only < 1 ? Err.VALUE : oneReplaced(whole, part, only), whole, part, "cc", only);
                }
            }
        }
    }

    private static String oneReplaced(String whole, String part, int only) {
        int place = part.isEmpty() ? -1 : whole.indexOf(part);
        for (int k = 1; k < only && place >= 0; k++) {
            place = whole.indexOf(part, place + part.length());
        }
        return place < 0 ? whole : whole.substring(0, place) + "cc" + whole.substring(place + part.length());
    }

    private static void numerals() {
        Pattern form = Pattern.compile(" *(-?)([0-9]+\\.?[0-9]*|\\.[0-9]+)(%?) *");
        for (String text : texts(" -.3%e", 4)) {
            Matcher matcher = form.matcher(text);
            Object due = Err.VALUE;
            if (matcher.matches()) {
                double size = Double.parseDouble(matcher.group(2)) / (matcher.group(3).isEmpty() ? 1 : 100);
                due = matcher.group(1).isEmpty() ? size : 0 - size;
            }
            function(73, due, text);
            operator(5, due, text, 0);
            function(6, due == Err.VALUE ? 0 : 1, text);
        }
    }

    private static void writtenNumbers() {
        for (int k = -2000; k <= 2000; k++) {
            writtenNumber(k / 8.0);
            writtenNumber(k * 125);
            writtenNumber(k * 1e11);
            writtenNumber(k + (k < 0 ? -1 : 1) * 512.0 / 1000000000);
        }
    }

    /** Only of numbers below 10^15 with at most nine places, which a BigDecimal has as they are. */
    private static void writtenNumber(double x) {
        BigDecimal exact = BigDecimal.valueOf(x).stripTrailingZeros();
        String due = exact.signum() == 0 ? "0" : exact.toPlainString();
        function(64, due, x);
        function(73, x, due);
    }

    private static void rows() {
        double[] values = {-2, 0, 0.5, 3};
        for (double a : values) {
            for (double b : values) {
                for (double c : values) {
                    rowOf(a, b, c);
                }
            }
        }
    }

    private static void rowOf(double a, double b, double c) {
        double[] sorted = {a, b, c};
        Arrays.sort(sorted);
        Object told = row(a, "7", b, true, c, BLANK);
        function(0, a + b + c, told);
        function(1, a * b * c, told);
        function(2, a * a + b * b + c * c, told);
        function(3, (a + b + c) / 3, told);
        function(4, sorted[0], told);
        function(5, sorted[2], told);
        function(6, 3, told);
        function(7, 5, told);
        function(9, sorted[1], told);
        for (int k = 1; k <= 3; k++) {
            function(10, sorted[3 - k], told, k);
            function(11, sorted[k - 1], told, k);
            int greater = (a > sorted[k - 1] ? 1 : 0) + (b > sorted[k - 1] ? 1 : 0) + (c > sorted[k - 1] ? 1 : 0);
            function(12, 1 + greater, sorted[k - 1], told);
        }
        function(15, a * b + b * c + c * a, row(a, b, c), row(b, c, a));
        function(17, (a > 0 ? a : 0) + (b > 0 ? b : 0) + (c > 0 ? c : 0), told, ">0");
    }

    private static void matches() {
        Object[] cells = {1, 2, 3, "b"};
        for (Object a : cells) {
            for (Object b : cells) {
                for (Object c : cells) {
                    for (double looked = 0.5; looked <= 3.5; looked += 0.5) {
                        Object[] line = {a, b, c};
                        matchIn(looked, line);
                    }
                }
            }
        }
    }

    private static void matchIn(double looked, Object[] line) {
        for (int manner = -1; manner <= 1; manner++) {
            Object due = manner == 0 ? firstSame(looked, line) : lastBefore(looked, line, manner);
            function(77, due, looked, row(line), manner);
            function(77, due, looked, column(line), manner);
            if (manner >= 0) {
                function(78, due, looked, table(2, line[0], 1, line[1], 2, line[2], 3), 2, manner);
                function(79, due, looked, table(3, line[0], line[1], line[2], 1, 2, 3), 2, manner);
            }
        }
    }

    private static Object firstSame(double looked, Object[] line) {
        for (int k = 0; k < line.length; k++) {
            if (line[k] instanceof Integer x && x == looked) {
                return k + 1;
            }
        }
        return Err.NONE;
    }

    private static Object lastBefore(double looked, Object[] line, int direction) {
        Object last = Err.NONE;
        for (int k = 0; k < line.length; k++) {
            if (line[k] instanceof Integer x) {
                if ((x - looked) * direction > 0) {
                    return last;
                }
                last = k + 1;
            }
        }
        return last;
    }

    /** Of an array whose cells tell their row and column. */
    private static void indexes() {
        for (int high = 1; high <= 3; high++) {
            for (int wide = 1; wide <= 3; wide++) {
                Object told = section(1, high, 1, wide);
                for (int r = -1; r <= 4; r++) {
                    for (int c = -1; c <= 4; c++) {
                        function(76, indexed(high, wide, r, c), told, r, c);
                    }
                    function(76, high == 1 ? indexed(1, wide, 1, r) : wide == 1 ? indexed(high, 1, r, 1)
                            : indexed(high, wide, r, 0), told, r);
                }
            }
        }
    }

    private static Object section(int firstRow, int lastRow, int firstColumn, int lastColumn) {
        Object[][] rows = new Object[lastRow - firstRow + 1][lastColumn - firstColumn + 1];
        for (int r = firstRow; r <= lastRow; r++) {
            for (int c = firstColumn; c <= lastColumn; c++) {
                rows[r - firstRow][c - firstColumn] = 10 * r + c;
            }
        }
        return rows;
    }

    private static Object indexed(int high, int wide, int r, int c) {
        if (r < 0 || c < 0) {
            return Err.VALUE;
        }
        if (r > high || c > wide) {
            return Err.REFERENCE;
        }
        if (r > 0 && c > 0) {
            return 10 * r + c;
        }
        return section(r > 0 ? r : 1, r > 0 ? r : high, c > 0 ? c : 1, c > 0 ? c : wide);
    }

    private static void truths() {
        Object[] told = {true, false, 0, -3, BLANK, "true", "FALSE"};
        boolean[] due = {true, false, false, true, false, true, false};
        for (int a = 0; a < told.length; a++) {
            function(42, !due[a], told[a]);
            for (int b = 0; b < told.length; b++) {
                function(39, due[a] && due[b], told[a], told[b]);
                function(40, due[a] || due[b], told[a], told[b]);
                function(41, due[a] != due[b], told[a], told[b]);
                for (int c = 0; c < 4; c++) {
                    function(41, due[a] ^ due[b] ^ due[c], told[a], row(told[c]), told[b]);
                }
                function(35, told[b], told[a], due[a] ? told[b] : "no", due[a] ? "no" : told[b]);
            }
        }
    }
}

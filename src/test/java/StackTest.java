/** The stack and promises 1 to 6 and 9 to 15, each sentence by itself. */
public final class StackTest extends Bench {
    private static final int MOST = 16;
    private static final int LOWEST = Integer.MIN_VALUE;
    private static final int HIGHEST = Integer.MAX_VALUE;
    private static final double GREATEST = 1.7976931348623157E308;

    private StackTest() {
    }

    public static void main(String[] args) {
        kindsOfValues();
        numbersAndCharacters();
        atMost16Values();
        atMost256Cells();
        fiveHundredAndTwelveCalls();
        promise1();
        promise2();
        promise3();
        promise3Characters();
        promise3Length();
        promise3Both();
        promise4();
        promise5();
        promise5Wrong();
        promise6();
        promise6Wrong();
        promise6NotSoMany();
        promise6Arrays();
        promise9();
        promise10();
        promise10Wrong();
        promise11();
        promise12();
        promise12Wrong();
        promise13();
        promise13NoCell();
        promise13NoWhat();
        promise14();
        promise15();
        end("StackTest");
    }

    /** So many numbers, the lowest 0, the next 1 .. */
    private static Counted numbers(int many) {
        Counted x = new Counted();
        for (int k = 0; k < many; k++) {
            x.number(k);
        }
        return x;
    }

    private static Counted typed(Counted x, String letters) {
        typeAll(x, letters);
        return x;
    }

    private static Counted sixteenArrays() {
        Counted x = numbers(MOST);
        x.array(4, 4);
        for (int k = 1; k < MOST; k++) {
            x.again(0);
        }
        return x;
    }

    private static void kindsOfValues() {
        sentence("VALUES: NOTHING 0, a NUMBER 1, a TEXT 2, a TRUTH 3, an ERROR 4, an ARRAY 5");
        Counted x = with(BLANK, 1, "a", true, Err.NULL, row(1, 2));
        for (int kind = 0; kind <= 5; kind++) {
            check("kind at depth " + (5 - kind), x.about(5 - kind, 0), kind);
        }
        sentence("NULL 1, DIVISION 2, VALUE 3, REFERENCE 4, NAME 5, NUMBER 6, NONE 7, RING 8");
        operator(4, Err.DIVISION, 1, 0);
        operator(0, Err.VALUE, "x");
        function(76, Err.REFERENCE, 1, 2);
        operator(2, Err.NUMBER, 0, 0);
        function(43, Err.NONE);
        check("DIVISION's number", Err.DIVISION.ordinal(), 1);
        check("RING's number", Err.RING.ordinal(), 7);
    }

    private static void numbersAndCharacters() {
        sentence("a NUMBER (finite binary64; there is one 0)");
        for (double v : new double[] {0, 4.9E-324, -4.9E-324, 2.2250738585072014E-308, GREATEST, -GREATEST, 1e-300}) {
            check("number", with(v).value(0, 0, 0), v);
        }
        for (double zero : new double[] {0.0, -0.0}) {
            check("1 / 0", 1 / with(zero).value(0, 0, 0), Double.POSITIVE_INFINITY);
        }
        sentence("a TEXT (0 to 255 characters 32 .. 126)");
        check("no character", read(with(""), 0), "");
        check("one character", read(with("x"), 0), "x");
        check("255 characters", read(with(times("abcde", 51)), 0), times("abcde", 51));
        StringBuilder all = new StringBuilder();
        for (char c = 32; c <= 126; c++) {
            all.append(c);
        }
        check("all characters", read(with(all.toString()), 0), all.toString());
    }

    private static void atMost16Values() {
        sentence("THE STACK has at most 16 values");
        Step[] steps = {x -> x.number(5), x -> x.text(), x -> x.plain(0, 0), x -> x.plain(3, 1), x -> x.plain(4, 8),
            x -> x.again(0), x -> x.call(43, 0), x -> x.call(44, 0), x -> x.call(45, 0)};
        Object[] due = {5, "", BLANK, true, Err.RING, 14, Err.NONE, true, false};
        for (int k = 0; k < steps.length; k++) {
            Counted x = numbers(MOST - 1);
            steps[k].on(x);
            check("size behind the 16th of call " + k, x.size(), MOST);
            check("the 16th of call " + k, read(x, 0), due[k]);
            check("beneath the 16th of call " + k, read(x, 1), MOST - 2);
            check("the lowest one", read(x, MOST - 1), 0);
            refused("the 17th of call " + k, Thrown.STATE, () -> typed(numbers(MOST), "ab"), steps[k]);
        }
    }

    private static void atMost256Cells() {
        sentence("with at most 256 cells together (a single value counts one)");
        Counted x = sixteenArrays();
        check("16 arrays of 16 cells", x.size(), MOST);
        for (int k = 0; k < MOST; k++) {
            check("a cell of the lowest", x.value(MOST - 1, k / 4, k % 4), k);
            check("a cell of the uppermost", x.value(0, k / 4, k % 4), k);
            check("the shape", x.about(k, 1) * x.about(k, 2), MOST);
        }
        x.call(80, 1);
        check("an array in an array's place, where 256 cells are", x.value(0, 1, 0), 1);
        check("an array in an array's place", x.size(), MOST);
        refused("a number above 256 cells", Thrown.STATE, () -> sixteenArrays(), y -> y.number(1));
        refused("an array above 256 cells", Thrown.STATE, () -> sixteenArrays(), y -> y.again(15));
        refused("an error above 256 cells", Thrown.STATE, () -> sixteenArrays(), y -> y.call(43, 0));
        Counted z = sixteenArrays();
        z.drop();
        z.number(7);
        check("a single one beside 15 arrays of 16 cells", read(z, 0), 7);
    }

    private static void fiveHundredAndTwelveCalls() {
        sentence("An object is used for at most 512 calls after it has been made");
        Counted x = new Counted();
        x.number(0);
        for (int k = 1; k < 256; k++) {
            x.number(1);
            x.operate(5);
        }
        check("calls", x.calls(), Counted.MOST_CALLS - 1);
        check("the 512th call", x.value(0, 0, 0), 255);
    }

    private static void promise1() {
        sentence("An empty stack, no text under way.");
        check("size of a new object", new Counted().size(), 0);
        check("text under way of a new object", new Counted().type(0), 0);
        Counted x = new Counted();
        x.text();
        check("text of a new object", read(x, 0), "");
        check("NONE", ValueAlgebra.NONE, -1);
        sentence("All memory is the algebra's own");
        Counted first = new Counted();
        first.type('a');
        first.number(1);
        Counted second = new Counted();
        check("another object's size", second.size(), 0);
        check("another object's text under way", second.type('b'), 1);
        check("the first one's text under way", first.type(0), 1);
    }

    private static void promise2() {
        sentence("A number (a finite one: another is never given) comes onto the stack.");
        Counted x = with("under", 1, -2.5);
        check("size", x.size(), 3);
        check("the uppermost", read(x, 0), -2.5);
        check("below it", read(x, 1), 1);
        check("the lowest", read(x, 2), "under");
        sentence("number: IllegalStateException when there is no room.");
        Counted y = numbers(MOST - 1);
        y.number(99);
        check("the 16th", read(y, 0), 99);
        refused("the 17th", Thrown.STATE, () -> numbers(MOST), z -> z.number(1));
        refused("the 17th, a 0", Thrown.STATE, () -> typed(numbers(MOST), "abc"), z -> z.number(-0.0));
    }

    private static void promise3() {
        sentence("The bytes of a word that are not 0 (wherever those that are 0 stand), the highest first");
        Counted x = new Counted();
        int[] words = {0x41424344, 0, 0x45, 0x46000000, 0x00470048, 0x49004A00, 0x004B4C00, 0x4D00004E, 0x004F5051,
            0x52530054, 0x00005500, 0x00560000, 0x20202020, 0x7E7E7E7E};
        int[] due = {4, 4, 5, 6, 8, 10, 12, 14, 17, 20, 21, 22, 26, 30};
        for (int k = 0; k < words.length; k++) {
            check("type(" + Integer.toHexString(words[k]) + ")", x.type(words[k]), due[k]);
        }
        check("size before text", x.size(), 0);
        x.text();
        check("what was typed", read(x, 0), "ABCDEFGHIJKLMNOPQRSTUV    ~~~~");
        sentence("answers its length");
        check("no length", new Counted().type(0), 0);
        check("length of one", new Counted().type(0x00200000), 1);
        check("length of four", new Counted().type(0x7E20207E), 4);
    }

    private static void promise3Characters() {
        sentence("IllegalArgumentException when one is not 32 .. 126");
        for (int shift = 0; shift < 32; shift += 8) {
            int others = 0x61616161 & ~(255 << shift);
            for (int code : new int[] {32, 33, 125, 126}) {
                Counted x = typed(new Counted(), "xy");
                check("type of " + code + " at " + shift, x.type(others | code << shift), 6);
                x.text();
                check("letter of " + code, x.letter(0, 0, 0, 5 - shift / 8), code);
            }
            for (int code : new int[] {1, 2, 9, 30, 31, 127, 128, 129, 160, 224, 254, 255}) {
                int word = others | code << shift;
                refused("type of " + code + " at " + shift, Thrown.ARGUMENT, () -> typed(with(1), "xy"), x -> x.type(word));
                int alone = code << shift;
                refused("type of " + code + " alone", Thrown.ARGUMENT, () -> typed(with(1), "xy"), x -> x.type(alone));
            }
        }
        for (int word : new int[] {-1, LOWEST, HIGHEST, 0x1F1F1F1F, 0x7F7F7F7F}) {
            refused("type(" + word + ")", Thrown.ARGUMENT, () -> new Counted(), x -> x.type(word));
        }
    }

    private static void promise3Length() {
        sentence("type: IllegalStateException when there would be more than 255.");
        int[] words = {0, 0x62, 0x62630000, 0x62006364, 0x62636465};
        for (int added = 0; added <= 4; added++) {
            int word = words[added];
            Counted x = typed(new Counted(), times("a", 255 - added));
            check("type up to 255 by " + added, x.type(word), 255);
            x.text();
            check("a text of 255", x.cell(0, 0, 0, 1), 255);
            check("its last letter", x.letter(0, 0, 0, 254), added == 0 ? 'a' : 'a' + added);
            for (int before = 256 - added; before <= 255; before++) {
                String standing = times("a", before);
                refused("type of " + added + " at " + before, Thrown.STATE, () -> typed(with(1), standing), y -> y.type(word));
            }
        }
        Counted full = typed(new Counted(), times("a", 255));
        full.text();
        check("type behind a text of 255", full.type('b'), 1);
    }

    private static void promise3Both() {
        sentence("type: where several exceptions that a call names fit, the one named first is thrown");
        for (int word : new int[] {0x6161611F, 0x7F616161, 0x1F, 0x7F, -1}) {
            refused("a wrong byte at 255", Thrown.ARGUMENT, () -> typed(new Counted(), times("a", 255)), x -> x.type(word));
        }
        refused("a right byte at 255", Thrown.STATE, () -> typed(new Counted(), times("a", 255)), x -> x.type(0x61));
    }

    private static void promise4() {
        sentence("The text under way comes onto the stack, and is empty then.");
        Counted x = typed(with(5), "one two");
        x.text();
        check("size", x.size(), 2);
        check("text", read(x, 0), "one two");
        check("below it", read(x, 1), 5);
        check("the text under way is empty then", x.type(0), 0);
        x.text();
        check("a text of no characters", read(x, 0), "");
        check("its kind", x.about(0, 0), 2);
        Counted longest = typed(new Counted(), times("a", 255));
        longest.text();
        check("a text of 255", longest.cell(0, 0, 0, 1), 255);
        check("empty behind a text of 255", longest.type(0), 0);
        sentence("text: IllegalStateException when there is no room.");
        Counted y = typed(numbers(MOST - 1), "abc");
        y.text();
        check("the 16th", read(y, 0), "abc");
        refused("the 17th", Thrown.STATE, () -> typed(numbers(MOST), "abc"), z -> z.text());
        refused("the 17th, of no characters", Thrown.STATE, () -> numbers(MOST), z -> z.text());
        Counted later = typed(numbers(MOST), "abc");
        check("the 17th again", thrownBy(later, z -> z.text()), Thrown.STATE);
        later.drop();
        later.text();
        check("it comes when there is room", read(later, 0), "abc");
    }

    private static void promise5() {
        sentence("Nothing (kind 0, any v)");
        for (int v : new int[] {0, 1, -1, 2, 9, 255, HIGHEST, LOWEST}) {
            Counted x = with(5);
            x.plain(0, v);
            check("nothing with " + v, read(x, 0), BLANK);
            check("size", x.size(), 2);
        }
        sentence("a truth (3, v 0 or 1)");
        Counted truths = new Counted();
        truths.plain(3, 0);
        truths.plain(3, 1);
        check("TRUE", read(truths, 0), true);
        check("FALSE", read(truths, 1), false);
        sentence("an error (4, v 1 .. 8)");
        for (int v = 1; v <= 8; v++) {
            Counted x = with(5);
            x.plain(4, v);
            check("error " + v, x.cell(0, 0, 0, 1), v);
            check("its kind", x.cell(0, 0, 0, 0), 4);
        }
        sentence("plain: IllegalStateException when there is no room.");
        int[][] right = {{0, 0}, {3, 0}, {3, 1}, {4, 1}, {4, 8}};
        for (int[] told : right) {
            Counted x = numbers(MOST - 1);
            x.plain(told[0], told[1]);
            check("the 16th", x.size(), MOST);
            refused("the 17th", Thrown.STATE, () -> numbers(MOST), y -> y.plain(told[0], told[1]));
        }
    }

    private static void promise5Wrong() {
        sentence("plain: IllegalArgumentException when it is none of these");
        int[][] wrong = {{3, 2}, {3, -1}, {3, HIGHEST}, {3, LOWEST}, {4, 0}, {4, 9}, {4, -1}, {4, HIGHEST}, {4, LOWEST},
            {1, 0}, {1, 1}, {2, 0}, {2, 1}, {5, 0}, {5, 1}, {6, 0}, {6, 1}, {7, 1}, {-1, 0}, {-1, 1}, {HIGHEST, 1},
            {LOWEST, 1}};
        for (int[] told : wrong) {
            String call = "plain(" + told[0] + ", " + told[1] + ")";
            refused(call, Thrown.ARGUMENT, () -> typed(with(1, "a"), "bc"), x -> x.plain(told[0], told[1]));
            refused(call + " where there is no room", Thrown.ARGUMENT, () -> numbers(MOST), x -> x.plain(told[0], told[1]));
        }
    }

    private static void promise6() {
        sentence("As many upper values as rows times columns, the lowest first, become an array, by rows.");
        Counted x = with("under", 1, "b", true, BLANK, Err.RING, -6);
        x.array(2, 3);
        check("size", x.size(), 2);
        check("the array", read(x, 0), table(3, 1, "b", true, BLANK, Err.RING, -6));
        check("under it", read(x, 1), "under");
        for (int rows = 1; rows <= MOST; rows++) {
            for (int columns = 1; rows * columns <= MOST; columns++) {
                Counted y = numbers(MOST);
                y.array(rows, columns);
                int first = MOST - rows * columns;
                check("size", y.size(), first + 1);
                check("kind", y.about(0, 0), 5);
                check("rows", y.about(0, 1), rows);
                check("columns", y.about(0, 2), columns);
                check("the first cell", y.value(0, 0, 0), first);
                check("the last cell", y.value(0, rows - 1, columns - 1), MOST - 1);
                check("the first row's last cell", y.value(0, 0, columns - 1), first + columns - 1);
                check("the value under it", first == 0 ? 0 : y.value(1, 0, 0), first == 0 ? 0 : first - 1);
            }
        }
    }

    private static void notMade(String call, Maker maker, int rows, int columns) {
        refused(call + " array(" + rows + ", " + columns + ")", Thrown.ARGUMENT, maker, x -> x.array(rows, columns));
    }

    private static void promise6Wrong() {
        sentence("array: IllegalArgumentException when rows or columns are below 1");
        Counted x = with(3);
        x.array(1, 1);
        check("an array of 1 by 1", read(x, 0), row(3));
        int[] below = {0, -1, -2, -4, LOWEST};
        for (int wrong : below) {
            for (int other : new int[] {1, 2, 4, 16, HIGHEST, 0, -1, LOWEST}) {
                notMade("below 1:", () -> typed(numbers(4), "a"), wrong, other);
                notMade("below 1:", () -> typed(numbers(4), "a"), other, wrong);
            }
            notMade("below 1, of none:", () -> new Counted(), wrong, 1);
        }
    }

    private static void promise6NotSoMany() {
        sentence("array: IllegalArgumentException when there are not so many values");
        int[][] shapes = {{1, 1}, {1, 4}, {4, 1}, {2, 2}, {3, 5}, {5, 3}, {1, 16}, {16, 1}, {4, 4}, {2, 8}};
        for (int[] shape : shapes) {
            int many = shape[0] * shape[1];
            Counted x = numbers(many);
            x.array(shape[0], shape[1]);
            check("an array of all " + many, x.size(), 1);
            notMade("one is missing:", () -> numbers(many - 1), shape[0], shape[1]);
        }
        int[][] wrong = {{17, 1}, {1, 17}, {4, 5}, {5, 4}, {16, 16}, {16, 2}, {2, 9}, {256, 1}, {65536, 65536}, {HIGHEST, 2},
            {2, HIGHEST}, {HIGHEST, HIGHEST}, {1073741824, 4}, {4, 1073741824}, {46341, 46341}, {1 << 30, 1 << 30},
            {(1 << 30) + 1, 4}, {4, (1 << 30) + 1}, {65537, 65537}, {1, HIGHEST}, {HIGHEST, 1}};
        for (int[] shape : wrong) {
            notMade("of all 16:", () -> numbers(MOST), shape[0], shape[1]);
        }
    }

    private static void promise6Arrays() {
        sentence("array: IllegalArgumentException when one is an array");
        notMade("the lowest of three is an array:", () -> with(row(2, 3), 1, 4), 3, 1);
        notMade("the middle of three is an array:", () -> with(1, row(2, 3), 4), 1, 3);
        notMade("the uppermost is an array:", () -> with(1, 4, column(2, 3)), 1, 3);
        notMade("an array of one cell is one:", () -> with(1, row(2), 4), 1, 3);
        notMade("an array alone is one:", () -> with(row(2)), 1, 1);
        notMade("where many are right:", () -> {
            Counted x = numbers(MOST);
            x.array(1, 2);
            x.number(1);
            return x;
        }, 1, 2);
        Counted x = with(row(2, 3), 1, 4);
        x.array(1, 2);
        check("an array below those that are taken", read(x, 1), row(2, 3));
        check("is no matter", read(x, 0), row(1, 4));
    }

    private static void promise9() {
        sentence("The uppermost value is no more.");
        Counted x = typed(with(1, "a", row(1, 2)), "x");
        x.drop();
        check("size", x.size(), 2);
        check("uppermost", read(x, 0), "a");
        check("the text under way", x.type(0), 1);
        x.drop();
        check("the last one but that", read(x, 0), 1);
        x.drop();
        check("size behind the last", x.size(), 0);
        sentence("drop: IllegalStateException when there is none.");
        refused("drop of none", Thrown.STATE, () -> new Counted(), y -> y.drop());
        refused("drop of none with a text under way", Thrown.STATE, () -> typed(new Counted(), "a"), y -> y.drop());
        check("drop behind the last", thrownBy(x, y -> y.drop()), Thrown.STATE);
        check("and once more", thrownBy(x, y -> y.drop()), Thrown.STATE);
        check("size then", x.size(), 0);
        x.number(7);
        check("a number behind that", read(x, 0), 7);
        Counted full = numbers(MOST);
        for (int k = MOST; k > 0; k--) {
            check("the uppermost", full.value(0, 0, 0), k - 1);
            full.drop();
        }
        check("16 are no more", full.size(), 0);
    }

    private static void promise10() {
        sentence("The value so far below the uppermost (0 is that) comes onto the stack once more.");
        Object[] told = {1, "abc", row(1, "x"), true, BLANK, Err.NAME};
        for (int depth = 0; depth < 6; depth++) {
            Counted x = with(told);
            x.again(depth);
            check("again(" + depth + ")", read(x, 0), told[5 - depth]);
            check("size", x.size(), 7);
            check("the one that was there", read(x, depth + 1), told[5 - depth]);
        }
        Counted x = with(row(1, 2));
        x.again(0);
        x.call(80, 1);
        check("the one that was there stays", read(x, 1), row(1, 2));
        Counted y = numbers(MOST - 1);
        y.again(14);
        check("the lowest, as the 16th", read(y, 0), 0);
        check("size", y.size(), MOST);
    }

    private static void promise10Wrong() {
        sentence("again: IndexOutOfBoundsException when there is none");
        for (int depth : new int[] {3, 4, -1, 16, HIGHEST, LOWEST}) {
            refused("again(" + depth + ")", Thrown.BOUNDS, () -> typed(with(1, "a", row(1, 2)), "x"), x -> x.again(depth));
        }
        for (int depth : new int[] {0, 1, -1}) {
            refused("again(" + depth + ") of none", Thrown.BOUNDS, () -> new Counted(), x -> x.again(depth));
        }
        sentence("again: IllegalStateException when there is no room.");
        for (int depth = 0; depth < MOST; depth++) {
            int told = depth;
            refused("again(" + depth + ") of 16", Thrown.STATE, () -> numbers(MOST), x -> x.again(told));
        }
        sentence("again: where several exceptions fit, the one named first");
        for (int depth : new int[] {16, 17, -1, HIGHEST, LOWEST}) {
            refused("again(" + depth + ") of 16", Thrown.BOUNDS, () -> numbers(MOST), x -> x.again(depth));
        }
    }

    private static void promise11() {
        sentence("How many values there are.");
        Counted x = new Counted();
        for (int k = 0; k < MOST; k++) {
            check("size", x.size(), k);
            x.number(k);
        }
        check("size of 16", x.size(), MOST);
        x.operate(0);
        check("size behind an operator of one", x.size(), MOST);
        x.operate(5);
        check("size behind an operator of two", x.size(), MOST - 1);
        x.call(0, 8);
        check("size behind a function of eight", x.size(), MOST - 8);
        x.array(2, 4);
        check("an array is one value", x.size(), 1);
        x.call(44, 0);
        check("size behind a function of none", x.size(), 2);
        x.type('a');
        check("a text under way is none", x.size(), 2);
        x.drop();
        x.drop();
        check("size of none", x.size(), 0);
    }

    private static void promise12() {
        sentence("what = 0 its kind, 1 its rows, 2 its columns (1 for single ones)");
        Counted x = with(BLANK, 1, "abc", true, Err.NULL, table(3, 1, 2, 3, 4, 5, 6), row("a"));
        for (int depth = 2; depth <= 6; depth++) {
            check("kind", x.about(depth, 0), 6 - depth);
            check("rows", x.about(depth, 1), 1);
            check("columns", x.about(depth, 2), 1);
        }
        int[] due = {5, 2, 3};
        int[] ofOne = {5, 1, 1};
        for (int what = 0; what <= 2; what++) {
            check("of an array", x.about(1, what), due[what]);
            check("of an array of one cell", x.about(0, what), ofOne[what]);
        }
    }

    private static void promise12Wrong() {
        sentence("about: IndexOutOfBoundsException when there is none");
        Object[] told = {1, "a", row(1, 2)};
        check("the lowest is there", with(told).about(2, 0), 1);
        for (int depth : new int[] {3, 4, -1, HIGHEST, LOWEST}) {
            for (int what : new int[] {0, 1, 2}) {
                refused("about(" + depth + ", " + what + ")", Thrown.BOUNDS, () -> with(told), x -> x.about(depth, what));
            }
        }
        refused("about of none", Thrown.BOUNDS, () -> new Counted(), x -> x.about(0, 0));
        check("the lowest of 16", numbers(MOST).about(15, 0), 1);
        refused("about below 16", Thrown.BOUNDS, () -> numbers(MOST), x -> x.about(16, 0));
        sentence("about: IllegalArgumentException when what is none of these.");
        for (int what : new int[] {-1, 3, 4, HIGHEST, LOWEST}) {
            for (int depth = 0; depth < 3; depth++) {
                int at = depth;
                refused("about(" + depth + ", " + what + ")", Thrown.ARGUMENT, () -> with(told), x -> x.about(at, what));
            }
            sentence("about: where several exceptions fit, the one named first");
            refused("about(3, " + what + ")", Thrown.BOUNDS, () -> with(told), x -> x.about(3, what));
            refused("about(-1, " + what + ")", Thrown.BOUNDS, () -> with(told), x -> x.about(-1, what));
        }
    }

    private static void promise13() {
        sentence("Of a cell, by row and column from 0 on (0, 0 for a single value)");
        Object[] told = {BLANK, 7, "abc", true, false, Err.NULL, Err.RING, "", -2.5, times("x", 255)};
        int[] kinds = {0, 1, 2, 3, 3, 4, 4, 2, 1, 2};
        int[] measures = {0, 0, 3, 1, 0, 1, 8, 0, 0, 255};
        Counted all = with(table(5, told));
        for (int k = 0; k < told.length; k++) {
            sentence("cell: what = 0 its kind");
            check("a single value's kind", with(told[k]).cell(0, 0, 0, 0), kinds[k]);
            check("a cell's kind", all.cell(0, k / 5, k % 5, 0), kinds[k]);
            sentence("1 a truth's 1 or 0, an error's number, a text's length; 0 for others");
            check("a single value's measure", with(told[k]).cell(0, 0, 0, 1), measures[k]);
            check("a cell's measure", all.cell(0, k / 5, k % 5, 1), measures[k]);
        }
    }

    private static final int[][] NO_CELLS = {
        {3, 0, 0}, {-1, 0, 0}, {4, 0, 0}, {HIGHEST, 0, 0}, {LOWEST, 0, 0},
        {0, 1, 0}, {0, 0, 1}, {0, -1, 0}, {0, 0, -1}, {0, HIGHEST, 0}, {0, 0, HIGHEST}, {0, LOWEST, 0}, {0, 0, LOWEST},
        {1, 2, 0}, {1, 0, 3}, {1, 2, 3}, {1, -1, 0}, {1, 0, -1}, {1, -1, 3}, {1, 2, -1}, {1, 1, -1}, {1, 3, -1},
        {1, 1, 3}, {1, HIGHEST, 2}, {1, 1, LOWEST}, {1, 1 << 30, 0}, {1, 1431655766, 0}, {1, 0, 4}, {1, 0, 5},
        {2, 0, 1}, {2, 1, 0}};

    /** A text, then 2 by 3 cells, then a single text. */
    private static Counted withCells() {
        return with("low", table(3, 1.5, "b", true, BLANK, Err.RING, "last"), "Az");
    }

    private static void promise13NoCell() {
        sentence("cell: IndexOutOfBoundsException when there is none");
        Counted x = withCells();
        check("the last cell", x.cell(1, 1, 2, 1), 4);
        check("the lowest value", x.cell(2, 0, 0, 1), 3);
        for (int[] at : NO_CELLS) {
            String call = "cell(" + at[0] + ", " + at[1] + ", " + at[2] + ", ";
            for (int what : new int[] {0, 1}) {
                refused(call + what, Thrown.BOUNDS, StackTest::withCells, y -> y.cell(at[0], at[1], at[2], what));
            }
            sentence("cell: where several exceptions fit, the one named first");
            refused(call + "2", Thrown.BOUNDS, StackTest::withCells, y -> y.cell(at[0], at[1], at[2], 2));
            refused(call + "-1", Thrown.BOUNDS, StackTest::withCells, y -> y.cell(at[0], at[1], at[2], -1));
        }
        refused("cell of none", Thrown.BOUNDS, () -> new Counted(), y -> y.cell(0, 0, 0, 0));
        refused("cell below 16", Thrown.BOUNDS, () -> numbers(MOST), y -> y.cell(16, 0, 0, 0));
        check("cell of the lowest of 16", numbers(MOST).cell(15, 0, 0, 0), 1);
    }

    private static void promise13NoWhat() {
        sentence("cell: IllegalArgumentException when what is none of these.");
        for (int what : new int[] {-1, 2, 3, HIGHEST, LOWEST}) {
            for (int depth = 0; depth < 3; depth++) {
                int at = depth;
                refused("cell(" + depth + ", 0, 0, " + what, Thrown.ARGUMENT, StackTest::withCells, x -> x.cell(at, 0, 0, what));
            }
            refused("cell(1, 1, 2, " + what, Thrown.ARGUMENT, StackTest::withCells, x -> x.cell(1, 1, 2, what));
        }
    }

    private static void promise14() {
        sentence("A cell's number; 0 for others.");
        Counted x = with(table(3, 1.5, "2", true, -3, Err.NUMBER, BLANK), "4", true, BLANK, Err.VALUE, GREATEST);
        double[] due = {1.5, 0, 0, -3, 0, 0};
        check("a number", x.value(0, 0, 0), GREATEST);
        for (int depth = 1; depth < 5; depth++) {
            check("no number", x.value(depth, 0, 0), 0);
        }
        for (int k = 0; k < due.length; k++) {
            check("cell " + k, x.value(5, k / 3, k % 3), due[k]);
        }
        sentence("value: IndexOutOfBoundsException when there is no such cell.");
        for (int[] at : NO_CELLS) {
            refused("value(" + at[0] + ", " + at[1] + ", " + at[2] + ")", Thrown.BOUNDS, StackTest::withCells,
                    y -> y.value(at[0], at[1], at[2]));
        }
        refused("value of none", Thrown.BOUNDS, () -> new Counted(), y -> y.value(0, 0, 0));
        check("value of the lowest of 16", numbers(MOST).value(15, 0, 0), 0);
        refused("value below 16", Thrown.BOUNDS, () -> numbers(MOST), y -> y.value(16, 0, 0));
    }

    private static void promise15() {
        sentence("Character k of a cell's text; NONE when there is none.");
        Counted x = with(column("", "xy", 12), 12, true, Err.VALUE, BLANK, "Az", times("ab", 127) + "c");
        check("letter 0", x.letter(1, 0, 0, 0), (int) 'A');
        check("letter 1", x.letter(1, 0, 0, 1), (int) 'z');
        check("letter 254", x.letter(0, 0, 0, 254), (int) 'c');
        check("letter 255", x.letter(0, 0, 0, 255), ValueAlgebra.NONE);
        for (int k : new int[] {2, 3, -1, 255, 256, HIGHEST, LOWEST}) {
            check("letter " + k, x.letter(1, 0, 0, k), ValueAlgebra.NONE);
        }
        for (int depth = 2; depth < 6; depth++) {
            check("letter of no text", x.letter(depth, 0, 0, 0), ValueAlgebra.NONE);
        }
        check("letter of an empty cell", x.letter(6, 0, 0, 0), ValueAlgebra.NONE);
        check("letter 0 of a cell", x.letter(6, 1, 0, 0), (int) 'x');
        check("letter 1 of a cell", x.letter(6, 1, 0, 1), (int) 'y');
        check("letter 2 of a cell", x.letter(6, 1, 0, 2), ValueAlgebra.NONE);
        check("letter of a number's cell", x.letter(6, 2, 0, 0), ValueAlgebra.NONE);
        sentence("letter: IndexOutOfBoundsException when there is no such cell.");
        for (int[] at : NO_CELLS) {
            for (int k : new int[] {0, -1, 999}) {
                refused("letter(" + at[0] + ", " + at[1] + ", " + at[2] + ", " + k + ")", Thrown.BOUNDS, StackTest::withCells,
                        y -> y.letter(at[0], at[1], at[2], k));
            }
        }
        refused("letter of none", Thrown.BOUNDS, () -> new Counted(), y -> y.letter(0, 0, 0, 0));
    }
}

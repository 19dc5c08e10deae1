/** Promises 1 to 6 and 9 to 15: what comes onto the stack, leaves it and is read from it. */
public final class StackTest {
    private static final int MOST_VALUES = 16;

    private StackTest() {
    }

    public static void main(String[] args) {
        promise1();
        promise2();
        promise3();
        promise3Wrong();
        promise4();
        promise5();
        promise6();
        promise6Wrong();
        promise9();
        promise10();
        promise11();
        promise12();
        promise13();
        promise14();
        promise15();
        Bench.end("StackTest");
    }

    private static ValueAlgebra full() {
        ValueAlgebra x = new ValueAlgebra();
        for (int k = 0; k < MOST_VALUES; k++) {
            x.number(k);
        }
        return x;
    }

    private static ValueAlgebra with(Object... told) {
        ValueAlgebra x = new ValueAlgebra();
        for (Object one : told) {
            Bench.push(x, one);
        }
        return x;
    }

    private static void promise1() {
        ValueAlgebra x = new ValueAlgebra();
        Bench.check("size of a new object", x.size(), 0);
        x.text();
        Bench.check("text of a new object", Bench.read(x, 0), "");
        Bench.check("NONE", ValueAlgebra.NONE, -1);
        ValueAlgebra other = new ValueAlgebra();
        x.type('a');
        Bench.check("another object's size", other.size(), 0);
        Bench.check("another object's text under way", other.type('b'), 1);
    }

    private static void promise2() {
        for (double v : new double[] {0, 1, -1, 0.1, -2.5, 4.9E-324, 1.7976931348623157E308, -1.7976931348623157E308}) {
            ValueAlgebra x = with(v);
            Bench.check("number", Bench.read(x, 0), v);
            Bench.check("kind of a number", x.about(0, 0), 1);
        }
        ValueAlgebra zero = with(-0.0);
        Bench.check("1 / the number -0", 1 / zero.value(0, 0, 0), Double.POSITIVE_INFINITY);
        ValueAlgebra x = full();
        Bench.throwing("number on a full stack", Bench.Thrown.STATE, x, () -> x.number(1));
    }

    private static void promise3() {
        ValueAlgebra x = new ValueAlgebra();
        Bench.check("type of four", x.type(0x41424344), 4);
        Bench.check("type of none", x.type(0), 4);
        Bench.check("type of the lowest", x.type(0x00000045), 5);
        Bench.check("type of the highest", x.type(0x46000000), 6);
        Bench.check("type of the second and the lowest", x.type(0x00470048), 8);
        Bench.check("type of the edges", x.type(0x207E207E), 12);
        x.text();
        Bench.check("what was typed", Bench.read(x, 0), "ABCDEFGH ~ ~");
        for (int k = 0; k < 63; k++) {
            x.type(0x61626364);
        }
        Bench.check("type up to 255", x.type(0x00656667), 255);
        Bench.throwing("type of the 256th", Bench.Thrown.STATE, x, () -> x.type('h'));
        Bench.check("type of none at 255", x.type(0), 255);
        x.text();
        Bench.check("a text of 255", Bench.read(x, 0), Bench.times("abcd", 63) + "efg");
    }

    private static void promise3Wrong() {
        ValueAlgebra x = new ValueAlgebra();
        x.type(0x61626364);
        for (int word : new int[] {31, 127, 1, 128, 255, 0x417F4243, 0x1F414243, 0x41420A43, 0x80414243, 0xC1414141, -1}) {
            Bench.throwing("type(" + word + ")", Bench.Thrown.ARGUMENT, x, () -> x.type(word));
            Bench.check("text under way behind type(" + word + ")", x.type(0), 4);
        }
        for (int k = 0; k < 62; k++) {
            x.type(0x61626364);
        }
        Bench.check("type up to 254", x.type(0x6566), 254);
        Bench.throwing("type of two at 254", Bench.Thrown.STATE, x, () -> x.type(0x6161));
        Bench.check("none of the two came", x.type(0), 254);
        Bench.throwing("a wrong byte where there is no room", Bench.Thrown.ARGUMENT, x, () -> x.type(0x61617F));
    }

    private static void promise4() {
        ValueAlgebra x = new ValueAlgebra();
        Bench.typeAll(x, "one two");
        Bench.check("size before text", x.size(), 0);
        x.text();
        Bench.check("text", Bench.read(x, 0), "one two");
        x.text();
        Bench.check("the text under way is empty then", Bench.read(x, 0), "");
        Bench.check("typed behind text", x.type('x'), 1);
        ValueAlgebra y = full();
        y.type(0x616263);
        Bench.throwing("text on a full stack", Bench.Thrown.STATE, y, () -> y.text());
        Bench.check("the text under way stays", y.type(0), 3);
        y.drop();
        y.text();
        Bench.check("it comes when there is room", Bench.read(y, 0), "abc");
    }

    private static void promise5() {
        ValueAlgebra x = new ValueAlgebra();
        for (int v : new int[] {0, 1, -1, 9, Integer.MAX_VALUE, Integer.MIN_VALUE}) {
            x.plain(0, v);
            Bench.check("nothing with " + v, Bench.read(x, 0), Bench.BLANK);
            x.drop();
        }
        x.plain(3, 1);
        Bench.check("TRUE", Bench.read(x, 0), true);
        x.plain(3, 0);
        Bench.check("FALSE", Bench.read(x, 0), false);
        for (Bench.Err error : Bench.Err.values()) {
            x.plain(4, error.ordinal() + 1);
            Bench.check("error", Bench.read(x, 0), error);
        }
        int[][] wrong = {{3, 2}, {3, -1}, {4, 0}, {4, 9}, {4, -1}, {1, 0}, {2, 0}, {5, 1}, {6, 0}, {-1, 0}};
        ValueAlgebra y = full();
        for (int[] told : wrong) {
            String call = "plain(" + told[0] + ", " + told[1] + ")";
            Bench.throwing(call, Bench.Thrown.ARGUMENT, x, () -> x.plain(told[0], told[1]));
            Bench.throwing(call + " on a full stack", Bench.Thrown.ARGUMENT, y, () -> y.plain(told[0], told[1]));
        }
        Bench.throwing("plain(0, 0) on a full stack", Bench.Thrown.STATE, y, () -> y.plain(0, 0));
        Bench.throwing("plain(3, 1) on a full stack", Bench.Thrown.STATE, y, () -> y.plain(3, 1));
        Bench.throwing("plain(4, 8) on a full stack", Bench.Thrown.STATE, y, () -> y.plain(4, 8));
    }

    private static void promise6() {
        ValueAlgebra x = with("below", 1, "two", true, Bench.BLANK, Bench.Err.NAME, 6);
        x.array(2, 3);
        Bench.check("size behind array", x.size(), 2);
        Bench.check("array by rows", Bench.read(x, 0), Bench.table(3, 1, "two", true, Bench.BLANK, Bench.Err.NAME, 6));
        Bench.check("below the array", Bench.read(x, 1), "below");
        ValueAlgebra y = with(1, 2, 3);
        y.array(1, 1);
        Bench.check("an array of one cell", Bench.read(y, 0), Bench.row(3));
        Bench.check("its kind", y.about(0, 0), 5);
        Bench.check("size behind an array of one cell", y.size(), 3);
        ValueAlgebra z = full();
        z.array(4, 4);
        Bench.check("size behind array of all", z.size(), 1);
        for (int k = 1; k < MOST_VALUES; k++) {
            z.again(0);
        }
        Bench.check("16 arrays of 16 cells", z.size(), MOST_VALUES);
        Bench.check("the last cell of the lowest", z.value(MOST_VALUES - 1, 3, 3), 15.0);
        ValueAlgebra w = full();
        w.array(16, 1);
        Bench.check("16 rows", w.about(0, 1), 16);
    }

    private static void promise6Wrong() {
        ValueAlgebra x = with(1, 2, 3, 4);
        int[][] wrong = {{0, 1}, {1, 0}, {-1, 1}, {1, -1}, {-2, -2}, {0, 0}, {5, 1}, {1, 5}, {3, 2}, {65536, 65536},
            {Integer.MAX_VALUE, 2}, {Integer.MIN_VALUE, Integer.MIN_VALUE}, {1073741824, 4}, {46341, 46341}};
        for (int[] told : wrong) {
            String call = "array(" + told[0] + ", " + told[1] + ")";
            Bench.throwing(call, Bench.Thrown.ARGUMENT, x, () -> x.array(told[0], told[1]));
        }
        ValueAlgebra y = with(1, Bench.row(2, 3), 4);
        Bench.throwing("an array as a cell", Bench.Thrown.ARGUMENT, y, () -> y.array(1, 2));
        Bench.throwing("an array as a cell, again", Bench.Thrown.ARGUMENT, y, () -> y.array(3, 1));
        y.array(1, 1);
        Bench.throwing("an array of one cell as a cell", Bench.Thrown.ARGUMENT, y, () -> y.array(1, 1));
        ValueAlgebra empty = new ValueAlgebra();
        Bench.throwing("array on an empty stack", Bench.Thrown.ARGUMENT, empty, () -> empty.array(1, 1));
    }

    private static void promise9() {
        ValueAlgebra x = with(1, "a", Bench.row(1, 2));
        x.drop();
        Bench.check("size behind drop", x.size(), 2);
        Bench.check("uppermost behind drop", Bench.read(x, 0), "a");
        x.drop();
        x.drop();
        Bench.throwing("drop of none", Bench.Thrown.STATE, x, () -> x.drop());
        x.number(7);
        Bench.check("a number behind that", Bench.read(x, 0), 7);
    }

    private static void promise10() {
        ValueAlgebra x = with(1, "a", Bench.row(1, 2));
        x.again(2);
        Bench.check("again(2)", Bench.read(x, 0), 1);
        x.again(1);
        Bench.check("again(1)", Bench.read(x, 0), Bench.row(1, 2));
        x.again(0);
        Bench.check("again(0)", Bench.read(x, 0), Bench.row(1, 2));
        Bench.check("size behind again", x.size(), 6);
        x.call(80, 1);
        Bench.check("the other one stays", Bench.read(x, 1), Bench.row(1, 2));
        for (int depth : new int[] {6, -1, 16, Integer.MAX_VALUE, Integer.MIN_VALUE}) {
            Bench.throwing("again(" + depth + ")", Bench.Thrown.BOUNDS, x, () -> x.again(depth));
        }
        ValueAlgebra y = full();
        Bench.throwing("again(0) on a full stack", Bench.Thrown.STATE, y, () -> y.again(0));
        Bench.throwing("again(15) on a full stack", Bench.Thrown.STATE, y, () -> y.again(15));
        Bench.throwing("again(16) on a full stack", Bench.Thrown.BOUNDS, y, () -> y.again(16));
        ValueAlgebra empty = new ValueAlgebra();
        Bench.throwing("again(0) of none", Bench.Thrown.BOUNDS, empty, () -> empty.again(0));
    }

    private static void promise11() {
        ValueAlgebra x = new ValueAlgebra();
        for (int k = 0; k < MOST_VALUES; k++) {
            Bench.check("size", x.size(), k);
            x.number(k);
        }
        Bench.check("size of a full stack", x.size(), MOST_VALUES);
        x.operate(5);
        Bench.check("size behind an operator", x.size(), MOST_VALUES - 1);
        x.call(0, 8);
        Bench.check("size behind a function", x.size(), MOST_VALUES - 8);
        x.array(2, 4);
        Bench.check("an array is one value", x.size(), 1);
    }

    private static void promise12() {
        ValueAlgebra x = with(Bench.BLANK, 1, "a", true, Bench.Err.NULL, Bench.table(3, 1, 2, 3, 4, 5, 6));
        for (int depth = 0; depth < 6; depth++) {
            Bench.check("kind", x.about(depth, 0), 5 - depth);
            Bench.check("rows", x.about(depth, 1), depth == 0 ? 2 : 1);
            Bench.check("columns", x.about(depth, 2), depth == 0 ? 3 : 1);
        }
        for (int depth : new int[] {-1, 6, Integer.MAX_VALUE, Integer.MIN_VALUE}) {
            Bench.throwing("about(" + depth + ", 0)", Bench.Thrown.BOUNDS, x, () -> x.about(depth, 0));
            Bench.throwing("about(" + depth + ", 3)", Bench.Thrown.BOUNDS, x, () -> x.about(depth, 3));
        }
        for (int what : new int[] {-1, 3, Integer.MAX_VALUE, Integer.MIN_VALUE}) {
            Bench.throwing("about(0, " + what + ")", Bench.Thrown.ARGUMENT, x, () -> x.about(0, what));
        }
    }

    private static void promise13() {
        ValueAlgebra x = with(Bench.row(Bench.BLANK, 7, "abc", true, false, Bench.Err.RING), "", Bench.times("x", 255));
        int[] kinds = {0, 1, 2, 3, 3, 4};
        int[] measures = {0, 0, 3, 1, 0, 8};
        for (int c = 0; c < 6; c++) {
            Bench.check("a cell's kind", x.cell(2, 0, c, 0), kinds[c]);
            Bench.check("a cell's measure", x.cell(2, 0, c, 1), measures[c]);
        }
        Bench.check("no characters", x.cell(1, 0, 0, 1), 0);
        Bench.check("255 characters", x.cell(0, 0, 0, 1), 255);
        int[][] none = {{3, 0, 0}, {-1, 0, 0}, {0, 1, 0}, {0, 0, 1}, {0, -1, 0}, {0, 0, -1}, {2, 1, 0}, {2, 0, 6}, {2, -1, 6}, {2, 1, -1}};
        for (int[] at : none) {
            for (int what = 0; what < 3; what++) {
                int told = what;
                Bench.throwing("cell(" + at[0] + ", " + at[1] + ", " + at[2] + ", " + what + ")", Bench.Thrown.BOUNDS, x,
                        () -> x.cell(at[0], at[1], at[2], told));
            }
        }
        for (int what : new int[] {-1, 2, Integer.MAX_VALUE, Integer.MIN_VALUE}) {
            Bench.throwing("cell(0, 0, 0, " + what + ")", Bench.Thrown.ARGUMENT, x, () -> x.cell(0, 0, 0, what));
        }
    }

    private static void promise14() {
        ValueAlgebra x = with(Bench.table(2, 1.5, "2", true, -3), "4", true, Bench.BLANK, Bench.Err.VALUE, 9);
        Bench.check("a number", x.value(0, 0, 0), 9);
        for (int depth = 1; depth < 5; depth++) {
            Bench.check("no number", x.value(depth, 0, 0), 0);
        }
        Bench.check("cell 0, 0", x.value(5, 0, 0), 1.5);
        Bench.check("cell 0, 1", x.value(5, 0, 1), 0);
        Bench.check("cell 1, 0", x.value(5, 1, 0), 0);
        Bench.check("cell 1, 1", x.value(5, 1, 1), -3);
        int[][] none = {{6, 0, 0}, {-1, 0, 0}, {0, 1, 0}, {0, 0, 1}, {0, -1, 0}, {5, 2, 0}, {5, 0, 2}, {5, 0, -1}, {5, 1, -1}};
        for (int[] at : none) {
            Bench.throwing("value(" + at[0] + ", " + at[1] + ", " + at[2] + ")", Bench.Thrown.BOUNDS, x,
                    () -> x.value(at[0], at[1], at[2]));
        }
    }

    private static void promise15() {
        ValueAlgebra x = with(Bench.column("", "xy", 12), 12, true, Bench.Err.VALUE, Bench.BLANK, "Az");
        Bench.check("letter 0", x.letter(0, 0, 0, 0), (int) 'A');
        Bench.check("letter 1", x.letter(0, 0, 0, 1), (int) 'z');
        for (int k : new int[] {2, -1, 255, Integer.MAX_VALUE, Integer.MIN_VALUE}) {
            Bench.check("letter " + k, x.letter(0, 0, 0, k), ValueAlgebra.NONE);
        }
        for (int depth = 1; depth < 5; depth++) {
            Bench.check("letter of no text", x.letter(depth, 0, 0, 0), ValueAlgebra.NONE);
        }
        Bench.check("letter of an empty cell", x.letter(5, 0, 0, 0), ValueAlgebra.NONE);
        Bench.check("letter of a cell", x.letter(5, 1, 0, 1), (int) 'y');
        Bench.check("letter of a number's cell", x.letter(5, 2, 0, 0), ValueAlgebra.NONE);
        int[][] none = {{6, 0, 0}, {-1, 0, 0}, {0, 1, 0}, {0, 0, 1}, {5, 3, 0}, {5, 0, 1}, {5, -1, 0}};
        for (int[] at : none) {
            Bench.throwing("letter(" + at[0] + ", " + at[1] + ", " + at[2] + ", 0)", Bench.Thrown.BOUNDS, x,
                    () -> x.letter(at[0], at[1], at[2], 0));
        }
    }
}

/** Promises 1 to 6 and 9 to 15: what comes onto the stack, leaves it and is read from it. */
public final class StackTest extends Bench {
    private static final int MOST_VALUES = 16;

    private StackTest() {
    }

    public static void main(String[] args) {
        promise1();
        promise2();
        promise3();
        promise3Wrong();
        promise4();
        promise5();
        promise6();
        promise6Wrong();
        promise9();
        promise10();
        promise11();
        promise12();
        promise13();
        promise14();
        promise15();
        end("StackTest");
    }

    private static ValueAlgebra full() {
        ValueAlgebra x = new ValueAlgebra();
        for (int k = 0; k < MOST_VALUES; k++) {
            x.number(k);
        }
        return x;
    }

    private static ValueAlgebra with(Object... told) {
        ValueAlgebra x = new ValueAlgebra();
        for (Object one : told) {
            push(x, one);
        }
        return x;
    }

    private static void promise1() {
        ValueAlgebra x = new ValueAlgebra();
        check("size of a new object", x.size(), 0);
        x.text();
        check("text of a new object", read(x, 0), "");
        check("NONE", ValueAlgebra.NONE, -1);
        ValueAlgebra other = new ValueAlgebra();
        x.type('a');
        check("another object's size", other.size(), 0);
        check("another object's text under way", other.type('b'), 1);
    }

    private static void promise2() {
        for (double v : new double[] {0, 1, -1, 0.1, -2.5, 4.9E-324, 1.7976931348623157E308, -1.7976931348623157E308}) {
            ValueAlgebra x = with(v);
            check("number", read(x, 0), v);
            check("kind of a number", x.about(0, 0), 1);
        }
        ValueAlgebra zero = with(-0.0);
        check("1 / the number -0", 1 / zero.value(0, 0, 0), Double.POSITIVE_INFINITY);
        ValueAlgebra x = full();
        throwing("number on a full stack", Thrown.STATE, x, () -> x.number(1));
    }

    private static void promise3() {
        ValueAlgebra x = new ValueAlgebra();
        check("type of four", x.type(0x41424344), 4);
        check("type of none", x.type(0), 4);
        check("type of the lowest", x.type(0x00000045), 5);
        check("type of the highest", x.type(0x46000000), 6);
        check("type of the second and the lowest", x.type(0x00470048), 8);
        check("type of the edges", x.type(0x207E207E), 12);
        x.text();
        check("what was typed", read(x, 0), "ABCDEFGH ~ ~");
        for (int k = 0; k < 63; k++) {
            x.type(0x61626364);
        }
        check("type up to 255", x.type(0x00656667), 255);
        throwing("type of the 256th", Thrown.STATE, x, () -> x.type('h'));
        check("type of none at 255", x.type(0), 255);
        x.text();
        check("a text of 255", read(x, 0), times("abcd", 63) + "efg");
    }

    private static void promise3Wrong() {
        ValueAlgebra x = new ValueAlgebra();
        x.type(0x61626364);
        for (int word : new int[] {31, 127, 1, 128, 255, 0x417F4243, 0x1F414243, 0x41420A43, 0x80414243, 0xC1414141, -1}) {
            throwing("type(" + word + ")", Thrown.ARGUMENT, x, () -> x.type(word));
            check("text under way behind type(" + word + ")", x.type(0), 4);
        }
        for (int k = 0; k < 62; k++) {
            x.type(0x61626364);
        }
        check("type up to 254", x.type(0x6566), 254);
        throwing("type of two at 254", Thrown.STATE, x, () -> x.type(0x6161));
        check("none of the two came", x.type(0), 254);
        throwing("a wrong byte where there is no room", Thrown.ARGUMENT, x, () -> x.type(0x61617F));
    }

    private static void promise4() {
        ValueAlgebra x = new ValueAlgebra();
        typeAll(x, "one two");
        check("size before text", x.size(), 0);
        x.text();
        check("text", read(x, 0), "one two");
        x.text();
        check("the text under way is empty then", read(x, 0), "");
        check("typed behind text", x.type('x'), 1);
        ValueAlgebra y = full();
        y.type(0x616263);
        throwing("text on a full stack", Thrown.STATE, y, () -> y.text());
        check("the text under way stays", y.type(0), 3);
        y.drop();
        y.text();
        check("it comes when there is room", read(y, 0), "abc");
    }

    private static void promise5() {
        ValueAlgebra x = new ValueAlgebra();
        for (int v : new int[] {0, 1, -1, 9, Integer.MAX_VALUE, Integer.MIN_VALUE}) {
            x.plain(0, v);
            check("nothing with " + v, read(x, 0), BLANK);
            x.drop();
        }
        x.plain(3, 1);
        check("TRUE", read(x, 0), true);
        x.plain(3, 0);
        check("FALSE", read(x, 0), false);
        for (Err error : Err.values()) {
            x.plain(4, error.ordinal() + 1);
            check("error", read(x, 0), error);
        }
        int[][] wrong = {{3, 2}, {3, -1}, {4, 0}, {4, 9}, {4, -1}, {1, 0}, {2, 0}, {5, 1}, {6, 0}, {-1, 0}};
        ValueAlgebra y = full();
        for (int[] told : wrong) {
            String call = "plain(" + told[0] + ", " + told[1] + ")";
            throwing(call, Thrown.ARGUMENT, x, () -> x.plain(told[0], told[1]));
            throwing(call + " on a full stack", Thrown.ARGUMENT, y, () -> y.plain(told[0], told[1]));
        }
        throwing("plain(0, 0) on a full stack", Thrown.STATE, y, () -> y.plain(0, 0));
        throwing("plain(3, 1) on a full stack", Thrown.STATE, y, () -> y.plain(3, 1));
        throwing("plain(4, 8) on a full stack", Thrown.STATE, y, () -> y.plain(4, 8));
    }

    private static void promise6() {
        ValueAlgebra x = with("below", 1, "two", true, BLANK, Err.NAME, 6);
        x.array(2, 3);
        check("size behind array", x.size(), 2);
        check("array by rows", read(x, 0), table(3, 1, "two", true, BLANK, Err.NAME, 6));
        check("below the array", read(x, 1), "below");
        ValueAlgebra y = with(1, 2, 3);
        y.array(1, 1);
        check("an array of one cell", read(y, 0), row(3));
        check("its kind", y.about(0, 0), 5);
        check("size behind an array of one cell", y.size(), 3);
        ValueAlgebra z = full();
        z.array(4, 4);
        check("size behind array of all", z.size(), 1);
        for (int k = 1; k < MOST_VALUES; k++) {
            z.again(0);
        }
        check("16 arrays of 16 cells", z.size(), MOST_VALUES);
        check("the last cell of the lowest", z.value(MOST_VALUES - 1, 3, 3), 15.0);
        ValueAlgebra w = full();
        w.array(16, 1);
        check("16 rows", w.about(0, 1), 16);
    }

    private static void promise6Wrong() {
        ValueAlgebra x = with(1, 2, 3, 4);
        int[][] wrong = {{0, 1}, {1, 0}, {-1, 1}, {1, -1}, {-2, -2}, {0, 0}, {5, 1}, {1, 5}, {3, 2}, {65536, 65536},
            {Integer.MAX_VALUE, 2}, {Integer.MIN_VALUE, Integer.MIN_VALUE}, {1073741824, 4}, {46341, 46341}};
        for (int[] told : wrong) {
            String call = "array(" + told[0] + ", " + told[1] + ")";
            throwing(call, Thrown.ARGUMENT, x, () -> x.array(told[0], told[1]));
        }
        ValueAlgebra y = with(1, row(2, 3), 4);
        throwing("an array as a cell", Thrown.ARGUMENT, y, () -> y.array(1, 2));
        throwing("an array as a cell, again", Thrown.ARGUMENT, y, () -> y.array(3, 1));
        y.array(1, 1);
        throwing("an array of one cell as a cell", Thrown.ARGUMENT, y, () -> y.array(1, 1));
        ValueAlgebra empty = new ValueAlgebra();
        throwing("array on an empty stack", Thrown.ARGUMENT, empty, () -> empty.array(1, 1));
    }

    private static void promise9() {
        ValueAlgebra x = with(1, "a", row(1, 2));
        x.drop();
        check("size behind drop", x.size(), 2);
        check("uppermost behind drop", read(x, 0), "a");
        x.drop();
        x.drop();
        throwing("drop of none", Thrown.STATE, x, () -> x.drop());
        x.number(7);
        check("a number behind that", read(x, 0), 7);
    }

    private static void promise10() {
        ValueAlgebra x = with(1, "a", row(1, 2));
        x.again(2);
        check("again(2)", read(x, 0), 1);
        x.again(1);
        check("again(1)", read(x, 0), row(1, 2));
        x.again(0);
        check("again(0)", read(x, 0), row(1, 2));
        check("size behind again", x.size(), 6);
        x.call(80, 1);
        check("the other one stays", read(x, 1), row(1, 2));
        for (int depth : new int[] {6, -1, 16, Integer.MAX_VALUE, Integer.MIN_VALUE}) {
            throwing("again(" + depth + ")", Thrown.BOUNDS, x, () -> x.again(depth));
        }
        ValueAlgebra y = full();
        throwing("again(0) on a full stack", Thrown.STATE, y, () -> y.again(0));
        throwing("again(15) on a full stack", Thrown.STATE, y, () -> y.again(15));
        throwing("again(16) on a full stack", Thrown.BOUNDS, y, () -> y.again(16));
        ValueAlgebra empty = new ValueAlgebra();
        throwing("again(0) of none", Thrown.BOUNDS, empty, () -> empty.again(0));
    }

    private static void promise11() {
        ValueAlgebra x = new ValueAlgebra();
        for (int k = 0; k < MOST_VALUES; k++) {
            check("size", x.size(), k);
            x.number(k);
        }
        check("size of a full stack", x.size(), MOST_VALUES);
        x.operate(5);
        check("size behind an operator", x.size(), MOST_VALUES - 1);
        x.call(0, 8);
        check("size behind a function", x.size(), MOST_VALUES - 8);
        x.array(2, 4);
        check("an array is one value", x.size(), 1);
    }

    private static void promise12() {
        ValueAlgebra x = with(BLANK, 1, "a", true, Err.NULL, table(3, 1, 2, 3, 4, 5, 6));
        for (int depth = 0; depth < 6; depth++) {
            check("kind", x.about(depth, 0), 5 - depth);
            check("rows", x.about(depth, 1), depth == 0 ? 2 : 1);
            check("columns", x.about(depth, 2), depth == 0 ? 3 : 1);
        }
        for (int depth : new int[] {-1, 6, Integer.MAX_VALUE, Integer.MIN_VALUE}) {
            throwing("about(" + depth + ", 0)", Thrown.BOUNDS, x, () -> x.about(depth, 0));
            throwing("about(" + depth + ", 3)", Thrown.BOUNDS, x, () -> x.about(depth, 3));
        }
        for (int what : new int[] {-1, 3, Integer.MAX_VALUE, Integer.MIN_VALUE}) {
            throwing("about(0, " + what + ")", Thrown.ARGUMENT, x, () -> x.about(0, what));
        }
    }

    private static void promise13() {
        ValueAlgebra x = with(row(BLANK, 7, "abc", true, false, Err.RING), "", times("x", 255));
        int[] kinds = {0, 1, 2, 3, 3, 4};
        int[] measures = {0, 0, 3, 1, 0, 8};
        for (int c = 0; c < 6; c++) {
            check("a cell's kind", x.cell(2, 0, c, 0), kinds[c]);
            check("a cell's measure", x.cell(2, 0, c, 1), measures[c]);
        }
        check("no characters", x.cell(1, 0, 0, 1), 0);
        check("255 characters", x.cell(0, 0, 0, 1), 255);
        int[][] none = {{3, 0, 0}, {-1, 0, 0}, {0, 1, 0}, {0, 0, 1}, {0, -1, 0}, {0, 0, -1}, {2, 1, 0}, {2, 0, 6}, {2, -1, 6}, {2, 1, -1}};
        for (int[] at : none) {
            for (int what = 0; what < 3; what++) {
                int told = what;
                throwing("cell(" + at[0] + ", " + at[1] + ", " + at[2] + ", " + what + ")", Thrown.BOUNDS, x,
                        () -> x.cell(at[0], at[1], at[2], told));
            }
        }
        for (int what : new int[] {-1, 2, Integer.MAX_VALUE, Integer.MIN_VALUE}) {
            throwing("cell(0, 0, 0, " + what + ")", Thrown.ARGUMENT, x, () -> x.cell(0, 0, 0, what));
        }
    }

    private static void promise14() {
        ValueAlgebra x = with(table(2, 1.5, "2", true, -3), "4", true, BLANK, Err.VALUE, 9);
        check("a number", x.value(0, 0, 0), 9);
        for (int depth = 1; depth < 5; depth++) {
            check("no number", x.value(depth, 0, 0), 0);
        }
        check("cell 0, 0", x.value(5, 0, 0), 1.5);
        check("cell 0, 1", x.value(5, 0, 1), 0);
        check("cell 1, 0", x.value(5, 1, 0), 0);
        check("cell 1, 1", x.value(5, 1, 1), -3);
        int[][] none = {{6, 0, 0}, {-1, 0, 0}, {0, 1, 0}, {0, 0, 1}, {0, -1, 0}, {5, 2, 0}, {5, 0, 2}, {5, 0, -1}, {5, 1, -1}};
        for (int[] at : none) {
            throwing("value(" + at[0] + ", " + at[1] + ", " + at[2] + ")", Thrown.BOUNDS, x,
                    () -> x.value(at[0], at[1], at[2]));
        }
    }

    private static void promise15() {
        ValueAlgebra x = with(column("", "xy", 12), 12, true, Err.VALUE, BLANK, "Az");
        check("letter 0", x.letter(0, 0, 0, 0), (int) 'A');
        check("letter 1", x.letter(0, 0, 0, 1), (int) 'z');
        for (int k : new int[] {2, -1, 255, Integer.MAX_VALUE, Integer.MIN_VALUE}) {
            check("letter " + k, x.letter(0, 0, 0, k), ValueAlgebra.NONE);
        }
        for (int depth = 1; depth < 5; depth++) {
            check("letter of no text", x.letter(depth, 0, 0, 0), ValueAlgebra.NONE);
        }
        check("letter of an empty cell", x.letter(5, 0, 0, 0), ValueAlgebra.NONE);
        check("letter of a cell", x.letter(5, 1, 0, 1), (int) 'y');
        check("letter of a number's cell", x.letter(5, 2, 0, 0), ValueAlgebra.NONE);
        int[][] none = {{6, 0, 0}, {-1, 0, 0}, {0, 1, 0}, {0, 0, 1}, {5, 3, 0}, {5, 0, 1}, {5, -1, 0}};
        for (int[] at : none) {
            throwing("letter(" + at[0] + ", " + at[1] + ", " + at[2] + ", 0)", Thrown.BOUNDS, x,
                    () -> x.letter(at[0], at[1], at[2], 0));
        }
    }
}

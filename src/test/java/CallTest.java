/** Promise 8: how many arguments each function takes, and what a call throws. */
public final class CallTest extends Bench {
    private static final int MOST_VALUES = 16;
    private static final int FUNCTIONS = 92;

    /** By the document: how many each of the functions takes at least and at most. */
    private static final int[][] TAKES = {
        {1, 8}, {1, 8}, {1, 8}, {1, 8}, {1, 8}, {1, 8}, {1, 8}, {1, 8}, {1, 1}, {1, 8},
        {2, 2}, {2, 2}, {2, 2}, {1, 8}, {1, 8}, {1, 4}, {2, 2}, {2, 3}, {2, 3}, {1, 1},
        {1, 1}, {1, 1}, {2, 2}, {2, 2}, {2, 2}, {1, 8}, {1, 8}, {1, 1}, {2, 2}, {1, 1},
        {1, 1}, {2, 2}, {2, 2}, {1, 2}, {1, 2}, {2, 3}, {2, 2}, {2, 2}, {2, 8}, {1, 8},
        {1, 8}, {1, 8}, {1, 1}, {0, 0}, {0, 0}, {0, 0}, {1, 1}, {1, 1}, {1, 1}, {1, 1},
        {1, 1}, {1, 1}, {1, 1}, {1, 1}, {1, 1}, {1, 1}, {1, 1}, {1, 2}, {1, 2}, {3, 3},
        {1, 1}, {1, 1}, {1, 1}, {1, 1}, {1, 8}, {2, 2}, {3, 4}, {4, 4}, {2, 3}, {2, 3},
        {2, 2}, {1, 1}, {1, 1}, {1, 1}, {1, 1}, {1, 1}, {2, 3}, {2, 3}, {3, 4}, {3, 4},
        {1, 1}, {3, 3}, {1, 1}, {1, 1}, {1, 1}, {1, 2}, {2, 2}, {2, 2}, {3, 3}, {1, 1},
        {1, 1}, {1, 1}};

    private CallTest() {
    }

    public static void main(String[] args) {
        check("how many functions", TAKES.length, FUNCTIONS);
        for (int number = 0; number < FUNCTIONS; number++) {
            takes(number);
            thereAreSoMany(number);
        }
        noSuchFunction();
        noRoom();
        namedFirst();
        answersInTheirPlace();
        manyCells();
        end("CallTest");
    }

    private static Counted ones(int many) {
        Counted x = new Counted();
        for (int k = 0; k < many; k++) {
            x.number(1);
        }
        return x;
    }

    private static Counted onesAndLetters(int many) {
        Counted x = ones(many);
        typeAll(x, "ab");
        return x;
    }

    private static void takes(int number) {
        sentence("call: IllegalArgumentException when it does not take so many");
        for (int n : new int[] {-1, 0, 1, 2, 3, 4, 5, 6, 7, 8, 9, 15, 16, 17, Integer.MIN_VALUE, Integer.MAX_VALUE}) {
            String call = "call(" + number + ", " + n + ")";
            if (n >= TAKES[number][0] && n <= TAKES[number][1]) {
                Counted x = ones(MOST_VALUES - 1);
                x.call(number, n);
                check(call + " leaves", x.size(), MOST_VALUES - n);
            } else {
                refused(call, Thrown.ARGUMENT, () -> onesAndLetters(9), x -> x.call(number, n));
            }
        }
    }

    private static void thereAreSoMany(int number) {
        sentence("call: IllegalArgumentException when there are not so many");
        for (int n = Math.max(1, TAKES[number][0]); n <= TAKES[number][1]; n++) {
            int many = n;
            Counted x = ones(n);
            x.call(number, n);
            check("call(" + number + ", " + n + ") of so many leaves", x.size(), 1);
            refused("call(" + number + ", " + n + ") of one less", Thrown.ARGUMENT,
                    () -> onesAndLetters(many - 1), y -> y.call(number, many));
        }
    }

    private static void noSuchFunction() {
        sentence("call: IllegalArgumentException when there is no such function");
        Counted first = ones(1);
        first.call(0, 1);
        check("the first function", first.size(), 1);
        Counted last = ones(1);
        last.call(91, 1);
        check("the last function", read(last, 0), 0);
        for (int number : new int[] {-1, -2, 92, 93, 127, 128, 255, 256, 1000, Integer.MAX_VALUE, Integer.MIN_VALUE}) {
            for (int n = -1; n <= 9; n++) {
                int many = n;
                refused("call(" + number + ", " + n + ")", Thrown.ARGUMENT, () -> onesAndLetters(8), x -> x.call(number, many));
            }
        }
    }

    private static void noRoom() {
        sentence("call: IllegalStateException when there is no room for the answer of none");
        Object[] due = {Err.NONE, true, false};
        for (int number = 43; number <= 45; number++) {
            int told = number;
            for (int size = 0; size < MOST_VALUES; size++) {
                Counted x = ones(size);
                x.call(number, 0);
                check("call(" + number + ", 0) at " + size, read(x, 0), due[number - 43]);
                check("size then", x.size(), size + 1);
            }
            refused("call(" + number + ", 0) at 16", Thrown.STATE, () -> onesAndLetters(MOST_VALUES), x -> x.call(told, 0));
        }
        for (int number = 0; number < FUNCTIONS; number++) {
            if (TAKES[number][1] > 0) {
                Counted x = ones(MOST_VALUES);
                x.call(number, TAKES[number][0]);
                check("call(" + number + ") of some at 16", x.size(), MOST_VALUES + 1 - TAKES[number][0]);
            }
        }
    }

    private static void namedFirst() {
        sentence("call: where several exceptions that a call names fit, the one named first is thrown");
        for (int number = 43; number <= 45; number++) {
            int told = number;
            for (int n : new int[] {-1, 1, 16, 17}) {
                refused("call(" + number + ", " + n + ") at 16", Thrown.ARGUMENT, () -> ones(MOST_VALUES), x -> x.call(told, n));
            }
        }
        for (int number : new int[] {-1, 92, 0, 19, 91}) {
            refused("call(" + number + ", 0) at 16", Thrown.ARGUMENT, () -> ones(MOST_VALUES), x -> x.call(number, 0));
        }
    }

    private static void answersInTheirPlace() {
        sentence("A function of the upper n values: the answer is in their place.");
        Counted x = with("under", 100, 7, 3);
        x.call(23, 2);
        check("MOD(7, 3)", read(x, 0), 1);
        check("below it", read(x, 1), 100);
        check("size", x.size(), 3);
        x.call(24, 2);
        check("QUOTIENT(100, 1)", read(x, 0), 100);
        x.call(44, 0);
        check("TRUE", read(x, 0), true);
        check("below TRUE", read(x, 1), 100);
        check("the lowest", read(x, 2), "under");
        Counted typing = new Counted();
        typing.type('a');
        typing.number(-5);
        typing.call(19, 1);
        check("the text under way", typing.type('b'), 2);
    }

    private static void manyCells() {
        sentence("with at most 256 cells together");
        Counted x = ones(MOST_VALUES);
        x.array(4, 4);
        for (int k = 1; k < MOST_VALUES; k++) {
            x.again(0);
        }
        x.call(0, 8);
        check("SUM of 128 cells", read(x, 0), 128);
        check("size then", x.size(), MOST_VALUES - 7);
        x.drop();
        x.call(1, 8);
        check("PRODUCT of the other 128", read(x, 0), 1);
        check("size in the end", x.size(), 1);
        Counted y = ones(MOST_VALUES);
        y.array(1, 16);
        for (int k = 1; k < 8; k++) {
            y.again(0);
        }
        y.call(6, 8);
        check("COUNT of 128 cells", read(y, 0), 128);
    }
}

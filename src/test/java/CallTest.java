/** Promise 8: how many arguments each function takes, and what a call throws. */
public final class CallTest extends Bench {
    private static final int MOST_VALUES = 16;
    private static final int FUNCTIONS = 92;

    /** By the document: how many each of the functions takes at least and at most. */
    private static final int[][] TAKES = {
        {1, 8}, {1, 8}, {1, 8}, {1, 8}, {1, 8}, {1, 8}, {1, 8}, {1, 8}, {1, 1}, {1, 8},
        {2, 2}, {2, 2}, {2, 2}, {1, 8}, {1, 8}, {1, 4}, {2, 2}, {2, 3}, {2, 3}, {1, 1},
        {1, 1}, {1, 1}, {2, 2}, {2, 2}, {2, 2}, {1, 8}, {1, 8}, {1, 1}, {2, 2}, {1, 1},
        {1, 1}, {2, 2}, {2, 2}, {1, 2}, {1, 2}, {2, 3}, {2, 2}, {2, 2}, {2, 8}, {1, 8},
        {1, 8}, {1, 8}, {1, 1}, {0, 0}, {0, 0}, {0, 0}, {1, 1}, {1, 1}, {1, 1}, {1, 1},
        {1, 1}, {1, 1}, {1, 1}, {1, 1}, {1, 1}, {1, 1}, {1, 1}, {1, 2}, {1, 2}, {3, 3},
        {1, 1}, {1, 1}, {1, 1}, {1, 1}, {1, 8}, {2, 2}, {3, 4}, {4, 4}, {2, 3}, {2, 3},
        {2, 2}, {1, 1}, {1, 1}, {1, 1}, {1, 1}, {1, 1}, {2, 3}, {2, 3}, {3, 4}, {3, 4},
        {1, 1}, {3, 3}, {1, 1}, {1, 1}, {1, 1}, {1, 2}, {2, 2}, {2, 2}, {3, 3}, {1, 1},
        {1, 1}, {1, 1}};

    private CallTest() {
    }

    public static void main(String[] args) {
        check("how many functions", TAKES.length, FUNCTIONS);
        for (int number = 0; number < FUNCTIONS; number++) {
            takes(number);
        }
        noSuchFunction();
        notSoMany();
        noRoom();
        argumentsInOrder();
        manyCells();
        end("CallTest");
    }

    private static ValueAlgebra ones(int many) {
        ValueAlgebra x = new ValueAlgebra();
        for (int k = 0; k < many; k++) {
            x.number(1);
        }
        return x;
    }

    private static void takes(int number) {
        for (int n = -1; n <= MOST_VALUES; n++) {
            int many = n;
            ValueAlgebra x = ones(MOST_VALUES - 1);
            String call = "call(" + number + ", " + n + ")";
            if (n >= TAKES[number][0] && n <= TAKES[number][1]) {
                x.call(number, n);
                check(call + " leaves", x.size(), MOST_VALUES - n);
                ValueAlgebra y = ones(n - 1);
                if (n > 0) {
                    throwing(call + " of less", Thrown.ARGUMENT, y, () -> y.call(number, many));
                }
            } else {
                throwing(call, Thrown.ARGUMENT, x, () -> x.call(number, many));
            }
        }
        ValueAlgebra z = ones(3);
        throwing("call(" + number + ", least)", Thrown.ARGUMENT, z, () -> z.call(number, Integer.MIN_VALUE));
        throwing("call(" + number + ", most)", Thrown.ARGUMENT, z, () -> z.call(number, Integer.MAX_VALUE));
    }

    private static void noSuchFunction() {
        ValueAlgebra x = ones(8);
        for (int number : new int[] {-1, 92, 93, 1000, Integer.MAX_VALUE, Integer.MIN_VALUE}) {
            for (int n = 0; n <= 8; n++) {
                int many = n;
                throwing("call(" + number + ", " + n + ")", Thrown.ARGUMENT, x, () -> x.call(number, many));
            }
        }
    }

    private static void notSoMany() {
        ValueAlgebra x = new ValueAlgebra();
        throwing("SUM on an empty stack", Thrown.ARGUMENT, x, () -> x.call(0, 1));
        throwing("SUM of none", Thrown.ARGUMENT, x, () -> x.call(0, 0));
        throwing("TRUE of one", Thrown.ARGUMENT, x, () -> x.call(44, 1));
        x.call(44, 0);
        check("TRUE on an empty stack", read(x, 0), true);
    }

    private static void noRoom() {
        for (int number = 43; number <= 45; number++) {
            int told = number;
            ValueAlgebra x = ones(MOST_VALUES);
            throwing("call(" + number + ", 0) on a full stack", Thrown.STATE, x, () -> x.call(told, 0));
            throwing("call(" + number + ", 1) on a full stack", Thrown.ARGUMENT, x, () -> x.call(told, 1));
            x.drop();
            x.call(number, 0);
            check("size then", x.size(), MOST_VALUES);
        }
        ValueAlgebra full = ones(MOST_VALUES);
        throwing("SUM of none on a full stack", Thrown.ARGUMENT, full, () -> full.call(0, 0));
        throwing("no function on a full stack", Thrown.ARGUMENT, full, () -> full.call(92, 0));
        full.call(19, 1);
        check("ABS on a full stack", full.size(), MOST_VALUES);
    }

    private static void argumentsInOrder() {
        ValueAlgebra x = new ValueAlgebra();
        x.number(100);
        x.number(7);
        x.number(3);
        x.call(23, 2);
        check("MOD(7, 3)", read(x, 0), 1);
        check("below it", read(x, 1), 100);
        x.call(24, 2);
        check("QUOTIENT(100, 1)", read(x, 0), 100);
    }

    private static void manyCells() {
        ValueAlgebra x = ones(MOST_VALUES);
        x.array(4, 4);
        for (int k = 1; k < 8; k++) {
            x.again(0);
        }
        x.call(0, 8);
        check("SUM of 128 cells", read(x, 0), 128);
        check("size then", x.size(), 1);
    }
}

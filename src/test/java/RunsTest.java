/**
 * Long runs of calls of all kinds, drawn from one fixed seed: nothing is thrown but what a
 * call names, a call that throws changes nothing, and no value is one that can't be.
 */
public final class RunsTest extends Bench {
    private static final int RUNS = 400;
    private static final int CALLS = 500;
    private static final String[] TEXTS = {"", "a", "AB c", "12", " -3.5% ", "TRUE", "false", "<>2", ">=a", "=", "a*",
        "?b*", "~?", "x~", "<5", "00.5", "1e5", times("ab", 120), times("*a", 100), times("x", 255)};
    private static final double[] NUMBERS = {0, 1, 2, 3, -1, -2.5, 0.1, 7, 60, 61, 366.75, 45000.5, 255, 256, 1e6, -1e6 - 0.5,
        1e15, 1e300, -1e300, 1.7976931348623157E308, 4.9E-324, 9007199254740991.0, 9007199254740992.0, -9007199254740993.0,
        32767, -32768, 2958465, 2958466, 1000, 170, 171, 1023, -1023, 0.5, 1.0 / 3, 999999.9999999999};

    private long seed = 20261118;

    private RunsTest() {
    }

    public static void main(String[] args) {
        RunsTest test = new RunsTest();
        for (int run = 0; run < RUNS; run++) {
            test.run(run);
        }
        end("RunsTest");
    }

    private int draw(int below) {
        seed = seed * 6364136223846793005L + 1442695040888963407L;
        return (int) ((seed >>> 33) % below);
    }

    private void run(int run) {
        ValueAlgebra x = new ValueAlgebra();
        for (int call = 0; call < CALLS; call++) {
            String before = showStack(x);
            int underWay = x.type(0);
            int size = x.size();
            String[] told = new String[1];
            Thrown thrown = thrownBy(() -> told[0] = step(x));
            String where = "run " + run + ", call " + call;
            check(where + " throws another exception", thrown == Thrown.OTHER, false);
            if (thrown != Thrown.NOTHING) {
                check(where + " threw and leaves", showStack(x), before);
                check(where + " threw and leaves under way", x.type(0), underWay);
            }
            checkValues(where, x);
            check(where + " from size " + size + " has a fit size", x.size() >= 0 && x.size() <= 16, true);
        }
    }

    private String step(ValueAlgebra x) {
        int kind = draw(20);
        if (kind < 8) {
            pushOne(x);
        } else if (kind < 10) {
            x.array(1 + draw(3), 1 + draw(3));
        } else if (kind < 12) {
            x.operate(draw(15));
        } else if (kind < 17) {
            x.call(draw(93), draw(5));
        } else if (kind < 18) {
            x.again(draw(6));
        } else if (kind < 19) {
            x.drop();
        } else {
            readOddly(x);
        }
        return "";
    }

    private void pushOne(ValueAlgebra x) {
        switch (draw(8)) {
            case 0: x.plain(0, draw(3)); break;
            case 1: x.plain(3, draw(2)); break;
            case 2: x.plain(4, 1 + draw(8)); break;
            case 3:
            case 4:
                if (x.size() < 16 && x.type(0) == 0) {
                    typeAll(x, TEXTS[draw(TEXTS.length)]);
                }
                x.text();
                break;
            default: x.number(NUMBERS[draw(NUMBERS.length)]);
        }
    }

    private void readOddly(ValueAlgebra x) {
        int depth = draw(20) - 2;
        int row = draw(5) - 1;
        int column = draw(5) - 1;
        switch (draw(5)) {
            case 0: x.about(depth, draw(5) - 1); break;
            case 1: x.cell(depth, row, column, draw(4) - 1); break;
            case 2: x.value(depth, row, column); break;
            case 3: x.letter(depth, row, column, draw(260) - 2); break;
            default: x.type(draw(0x7FFFFFFF)); break;
        }
    }

    private static void checkValues(String where, ValueAlgebra x) {
        int cells = 0;
        for (int depth = 0; depth < x.size(); depth++) {
            int rows = x.about(depth, 1);
            int columns = x.about(depth, 2);
            cells += rows * columns;
            for (int k = 0; k < rows * columns; k++) {
                int kind = x.cell(depth, k / columns, k % columns, 0);
                double amount = x.value(depth, k / columns, k % columns);
                boolean fit = kind >= 0 && kind <= 4 && Math.abs(amount) <= Double.MAX_VALUE;
                int code = x.cell(depth, k / columns, k % columns, 1);
                fit = fit && (kind != 4 || code >= 1 && code <= 8) && (kind != 2 || code <= 255);
                if (!fit) {
                    check(where + " leaves a value of kind " + kind + " with " + amount + " and " + code, fit, true);
                }
            }
        }
        check(where + " leaves not above 256 cells", cells <= 256, true);
    }
}

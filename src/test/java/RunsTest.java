import java.util.ArrayList;
import java.util.List;

/**
 * Runs of calls of all kinds, drawn from one fixed seed: nothing is thrown but what a call
 * names, a run is the same without its calls that threw, and no value is one that can't be.
 */
public final class RunsTest extends Bench {
    private static final int RUNS = 600;
    private static final int CALLS = 120;
    private static final int MOST_VALUES = 16;
    private static final String[] TEXTS = {"", "a", "AB c", "12", " -3.5% ", "TRUE", "false", "<>2", ">=a", "=", "a*",
        "?b*", "~?", "x~", "<5", "00.5", "1e5", times("ab", 20), times("*a", 15), times("x", 60)};
    private static final double[] NUMBERS = {0, 1, 2, 3, -1, -2.5, 0.1, 7, 60, 61, 366.75, 45000.5, 255, 256, 1e6, -1e6 - 0.5,
        1e15, 1e300, -1e300, 1.7976931348623157E308, 4.9E-324, 9007199254740991.0, 9007199254740992.0, -9007199254740993.0,
        32767, -32768, 2958465, 2958466, 1000, 170, 171, 1023, -1023, 0.5, 1.0 / 3, 999999.9999999999};

    /** A call, with the exceptions that it names. */
    private record Drawn(String shown, List<Thrown> named, Step step) {
    }

    private long seed = 20261118;
    private final List<Drawn> calls = new ArrayList<>();

    private RunsTest() {
    }

    public static void main(String[] args) {
        RunsTest test = new RunsTest();
        for (int run = 0; run < RUNS; run++) {
            test.run(run);
        }
        end("RunsTest");
    }

    private int draw(int below) {
        seed = seed * 6364136223846793005L + 1442695040888963407L;
        return (int) ((seed >>> 33) % below);
    }

    private void run(int run) {
        calls.clear();
        while (calls.size() < CALLS) {
            drawCall();
        }
        Counted x = new Counted();
        List<Step> right = new ArrayList<>();
        for (Drawn drawn : calls) {
            Thrown thrown = thrownBy(x, drawn.step);
            if (thrown == Thrown.NOTHING) {
                right.add(drawn.step);
            } else {
                check("run " + run + ": " + drawn.shown + " names what it throws", drawn.named.contains(thrown), true);
            }
        }
        int size = x.size();
        check("run " + run + " has a fit size", size >= 0 && size <= MOST_VALUES, true);
        check("run " + run + " has as many without those that threw", made(right).size(), size);
        int cells = 0;
        for (int depth = 0; depth < size; depth++) {
            cells += x.about(depth, 1) * x.about(depth, 2);
            Object value = read(all(), depth);
            check("run " + run + " has at depth " + depth + " without those that threw", read(made(right), depth), value);
            checkValue("run " + run + " at depth " + depth, value);
        }
        check("run " + run + " has at most 256 cells", cells <= 256, true);
        check("run " + run + " has under way without those that threw", made(right).type(0), x.type(0));
    }

    private Counted all() {
        Counted x = new Counted();
        for (Drawn drawn : calls) {
            thrownBy(x, drawn.step);
        }
        return x;
    }

    private static Counted made(List<Step> right) {
        Counted x = new Counted();
        for (Step step : right) {
            step.on(x);
        }
        return x;
    }

    private static void checkValue(String where, Object value) {
        if (value instanceof Object[][] rows) {
            for (Object[] cells : rows) {
                for (Object cell : cells) {
                    checkValue(where, cell);
                }
            }
        } else if (value instanceof Double d) {
            check(where + " is finite", Math.abs(d) <= Double.MAX_VALUE, true);
        } else {
            boolean fit = value == BLANK || value instanceof Boolean || value instanceof Err
                    || value instanceof String s && s.length() <= 255 && !s.startsWith("kind") && !s.startsWith("error");
            check(where + " is " + show(value), fit, true);
        }
    }

    private void add(String shown, List<Thrown> named, Step step) {
        calls.add(new Drawn(shown, named, step));
    }

    private void drawCall() {
        int kind = draw(20);
        if (kind < 8) {
            drawValue();
        } else if (kind < 10) {
            int rows = draw(5);
            int columns = 1 + draw(3);
            add("array(" + rows + ", " + columns + ")", List.of(Thrown.ARGUMENT), x -> x.array(rows, columns));
        } else if (kind < 12) {
            int operator = draw(16) - 1;
            add("operate(" + operator + ")", List.of(Thrown.ARGUMENT), x -> x.operate(operator));
        } else if (kind < 17) {
            int function = draw(94) - 1;
            int n = draw(5);
            add("call(" + function + ", " + n + ")", List.of(Thrown.ARGUMENT, Thrown.STATE), x -> x.call(function, n));
        } else if (kind < 18) {
            int depth = draw(7) - 1;
            add("again(" + depth + ")", List.of(Thrown.BOUNDS, Thrown.STATE), x -> x.again(depth));
        } else if (kind < 19) {
            add("drop()", List.of(Thrown.STATE), x -> x.drop());
        } else {
            drawReading();
        }
    }

    private void drawValue() {
        List<Thrown> both = List.of(Thrown.ARGUMENT, Thrown.STATE);
        int v = draw(9);
        switch (draw(8)) {
            case 0: add("plain(0, " + v + ")", both, x -> x.plain(0, v)); break;
            case 1: add("plain(3, " + v % 3 + ")", both, x -> x.plain(3, v % 3)); break;
            case 2: add("plain(4, " + v + ")", both, x -> x.plain(4, v)); break;
            case 3:
            case 4: drawText(both); break;
            default:
                double number = NUMBERS[draw(NUMBERS.length)];
                add("number(" + number + ")", List.of(Thrown.STATE), x -> x.number(number));
        }
    }

    private void drawText(List<Thrown> both) {
        String letters = TEXTS[draw(TEXTS.length)];
        for (int k = 0; k < letters.length(); k += 4) {
            int word = 0;
            for (int j = k; j < k + 4 && j < letters.length(); j++) {
                word = word << 8 | letters.charAt(j);
            }
            int told = word;
            add("type(" + word + ")", both, x -> x.type(told));
        }
        add("text()", List.of(Thrown.STATE), x -> x.text());
    }

    private void drawReading() {
        int depth = draw(20) - 2;
        int row = draw(5) - 1;
        int column = draw(5) - 1;
        int what = draw(5) - 1;
        String at = "(" + depth + ", " + row + ", " + column;
        List<Thrown> both = List.of(Thrown.BOUNDS, Thrown.ARGUMENT);
        switch (draw(5)) {
            case 0: add("about(" + depth + ", " + what + ")", both, x -> x.about(depth, what)); break;
            case 1: add("cell" + at + ", " + what + ")", both, x -> x.cell(depth, row, column, what)); break;
            case 2: add("value" + at + ")", List.of(Thrown.BOUNDS), x -> x.value(depth, row, column)); break;
            case 3: add("letter" + at + ", " + what + ")", List.of(Thrown.BOUNDS), x -> x.letter(depth, row, column, what)); break;
            default:
                int word = draw(0x7FFFFFFF);
                add("type(" + word + ")", List.of(Thrown.ARGUMENT, Thrown.STATE), x -> x.type(word));
        }
    }
}

import java.util.Arrays;

/**
 * What the tests share: values told as Java objects, put onto the stack and read from it
 * through the public face alone, and checks that count what is wrong.
 *
 * Nothing is BLANK, a number a Number, a text a String, a truth a Boolean, an error an Err,
 * and an array an Object[][] of its rows. The tests extend this class, only to name what is
 * in it without its name: a class without a package can't be imported.
 */
abstract class Bench {
    enum Err { NULL, DIVISION, VALUE, REFERENCE, NAME, NUMBER, NONE, RING }

    enum Blank { BLANK }

    static final Object BLANK = Blank.BLANK;

    /** Which exception a call throws. */
    enum Thrown { NOTHING, ARGUMENT, STATE, BOUNDS, OTHER }

    interface Step {
        void run();
    }

    private static final String BENEATH = "beneath";
    private static int checks = 0;
    private static int wrong = 0;

    static Object row(Object... cells) {
        return new Object[][] {cells};
    }

    static Object column(Object... cells) {
        Object[][] rows = new Object[cells.length][];
        for (int k = 0; k < cells.length; k++) {
            rows[k] = new Object[] {cells[k]};
        }
        return rows;
    }

    static Object table(int columns, Object... cells) {
        Object[][] rows = new Object[cells.length / columns][];
        for (int k = 0; k < rows.length; k++) {
            rows[k] = Arrays.copyOfRange(cells, k * columns, (k + 1) * columns);
        }
        return rows;
    }

    static String times(String letters, int many) {
        return letters.repeat(many);
    }

    /** A function of each value alone that is no numeral and of one that is an error. */
    static void wantsNumber(int number, int place, Object... told) {
        with(number, place, "abc", Err.VALUE, told);
        with(number, place, "", Err.VALUE, told);
        wantsSingle(number, place, told);
    }

    /** An error in the place is the answer, and an array of more cells the error VALUE. */
    static void wantsSingle(int number, int place, Object... told) {
        with(number, place, Err.RING, Err.RING, told);
        with(number, place, row(1, 2), Err.VALUE, told);
        with(number, place, row(Err.NAME), Err.NAME, told);
    }

    static void wantsWhole(int number, int place, Object... told) {
        wantsNumber(number, place, told);
        with(number, place, 9007199254740992.0, Err.NUMBER, told);
        with(number, place, -9007199254740992.0, Err.NUMBER, told);
    }

    private static void with(int number, int place, Object changed, Object want, Object... told) {
        Object[] all = told.clone();
        all[place] = changed;
        function(number, want, all);
    }

    static void typeAll(ValueAlgebra x, String letters) {
        for (int k = 0; k < letters.length(); k++) {
            x.type(letters.charAt(k));
        }
    }

    static void push(ValueAlgebra x, Object told) {
        if (told == BLANK) {
            x.plain(0, 0);
        } else if (told instanceof Number n) {
            x.number(n.doubleValue());
        } else if (told instanceof String s) {
            typeAll(x, s);
            x.text();
        } else if (told instanceof Boolean b) {
            x.plain(3, b ? 1 : 0);
        } else if (told instanceof Err e) {
            x.plain(4, e.ordinal() + 1);
        } else if (told instanceof Object[][] rows) {
            for (Object[] cells : rows) {
                for (Object cell : cells) {
                    push(x, cell);
                }
            }
            x.array(rows.length, rows[0].length);
        } else {
            throw new IllegalArgumentException("no value: " + told);
        }
    }

    static Object read(ValueAlgebra x, int depth) {
        int rows = x.about(depth, 1);
        int columns = x.about(depth, 2);
        if (x.about(depth, 0) != 5) {
            return rows == 1 && columns == 1 ? readCell(x, depth, 0, 0) : "a single value of " + rows + " by " + columns;
        }
        Object[][] cells = new Object[rows][columns];
        for (int r = 0; r < rows; r++) {
            for (int c = 0; c < columns; c++) {
                cells[r][c] = readCell(x, depth, r, c);
            }
        }
        return cells;
    }

    private static Object readCell(ValueAlgebra x, int depth, int r, int c) {
        int code = x.cell(depth, r, c, 1);
        double amount = x.value(depth, r, c);
        int first = x.letter(depth, r, c, 0);
        int kind = x.cell(depth, r, c, 0);
        if (kind != 1 && amount != 0 || kind != 2 && first != ValueAlgebra.NONE
                || kind < 2 && code != 0 || 1 / amount < 0 && amount == 0) {
            return "kind " + kind + " with code " + code + ", amount " + amount + ", letter " + first;
        }
        switch (kind) {
            case 0: return BLANK;
            case 1: return amount;
            case 2: return readLetters(x, depth, r, c, code);
            case 3: return code == 1;
            case 4: return code >= 1 && code <= 8 ? Err.values()[code - 1] : "error " + code;
            default: return "kind " + kind;
        }
    }

    private static String readLetters(ValueAlgebra x, int depth, int r, int c, int length) {
        StringBuilder read = new StringBuilder();
        for (int k = 0; k < length; k++) {
            read.append((char) x.letter(depth, r, c, k));
        }
        if (x.letter(depth, r, c, length) != ValueAlgebra.NONE || x.letter(depth, r, c, -1) != ValueAlgebra.NONE) {
            read.append(" and letters where none are");
        }
        return read.toString();
    }

    static boolean same(Object first, Object second) {
        if (first instanceof Object[][] a && second instanceof Object[][] b) {
            boolean same = a.length == b.length;
            for (int r = 0; same && r < a.length; r++) {
                same = a[r].length == b[r].length;
                for (int c = 0; same && c < a[r].length; c++) {
                    same = same(a[r][c], b[r][c]);
                }
            }
            return same;
        }
        if (first instanceof Number a && second instanceof Number b) {
            return a.doubleValue() == b.doubleValue();
        }
        return first.equals(second);
    }

    static String show(Object told) {
        if (told instanceof Object[][] rows) {
            StringBuilder shown = new StringBuilder("{");
            for (Object[] cells : rows) {
                shown.append(shown.length() > 1 ? "; " : "");
                for (int c = 0; c < cells.length; c++) {
                    shown.append(c > 0 ? ", " : "").append(show(cells[c]));
                }
            }
            return shown.append("}").toString();
        }
        return told instanceof String ? "\"" + told + "\"" : String.valueOf(told);
    }

    static void check(String call, Object got, Object want) {
        checks++;
        if (!same(got, want)) {
            wrong++;
            System.out.println(call + " answered " + show(got) + ", due is " + show(want));
        }
    }

    /** An operator of the values told, over another value that stays as it is. */
    static void operator(int number, Object want, Object... told) {
        ValueAlgebra x = ready(told);
        x.operate(number);
        checkAnswer("operator " + number, x, want, told);
    }

    /** A function of the values told, over another value that stays as it is. */
    static void function(int number, Object want, Object... told) {
        ValueAlgebra x = ready(told);
        x.call(number, told.length);
        checkAnswer("function " + number, x, want, told);
    }

    private static ValueAlgebra ready(Object... told) {
        ValueAlgebra x = new ValueAlgebra();
        push(x, BENEATH);
        for (Object one : told) {
            push(x, one);
        }
        return x;
    }

    private static void checkAnswer(String call, ValueAlgebra x, Object want, Object... told) {
        StringBuilder shown = new StringBuilder(call);
        for (Object one : told) {
            shown.append(" ").append(show(one));
        }
        check(shown + " leaves", x.size(), 2);
        check(shown.toString(), read(x, 0), want);
        if (x.size() > 1) {
            check(shown + " beneath", read(x, 1), BENEATH);
        }
    }

    static Thrown thrownBy(Step step) {
        try {
            step.run();
            return Thrown.NOTHING;
        } catch (RuntimeException e) {
            if (e.getClass() == IllegalArgumentException.class) {
                return Thrown.ARGUMENT;
            }
            if (e.getClass() == IllegalStateException.class) {
                return Thrown.STATE;
            }
            return e.getClass() == IndexOutOfBoundsException.class ? Thrown.BOUNDS : Thrown.OTHER;
        }
    }

    /** A call that throws, and changes nothing. */
    static void throwing(String call, Thrown want, ValueAlgebra x, Step step) {
        String before = showStack(x);
        check(call + " throws", thrownBy(step), want);
        check(call + " leaves", showStack(x), before);
    }

    static String showStack(ValueAlgebra x) {
        StringBuilder shown = new StringBuilder();
        for (int depth = 0; depth < x.size(); depth++) {
            shown.append(show(read(x, depth))).append(" | ");
        }
        return shown.toString();
    }

    /** To be the last call of a test. */
    static void end(String test) {
        System.out.println(test + ": " + checks + " checks, " + wrong + " wrong");
        if (wrong > 0 || checks == 0) {
            System.exit(1);
        }
    }
}

import java.util.Arrays;

/**
 * What the tests share: values told as Java objects, put onto the stack and read from it
 * through the public face alone, and checks that count what is wrong.
 *
 * Nothing is BLANK, a number a Number, a text a String, a truth a Boolean, an error an Err,
 * and an array an Object[][] of its rows. The tests extend this class, only to name what is
 * in it without its name: a class without a package can't be imported.
 */
abstract class Bench {
    enum Err { NULL, DIVISION, VALUE, REFERENCE, NAME, NUMBER, NONE, RING }

    enum Blank { BLANK }

    static final Object BLANK = Blank.BLANK;

    /** Which exception a call throws. */
    enum Thrown { NOTHING, ARGUMENT, STATE, BOUNDS, OTHER }

    /** Makes an object in the same state each time. */
    interface Maker {
        Counted make();
    }

    interface Step {
        void on(Counted x);
    }

    private static final int MOST_VALUES = 16;
    private static final String BENEATH = "beneath";
    private static String sentence = "";
    private static int checks = 0;
    private static int wrong = 0;

    /** The words of the document that the checks from here on are of. */
    static void sentence(String words) {
        sentence = words;
    }

    static Object row(Object... cells) {
        return new Object[][] {cells};
    }

    static Object column(Object... cells) {
        Object[][] rows = new Object[cells.length][];
        for (int k = 0; k < cells.length; k++) {
            rows[k] = new Object[] {cells[k]};
        }
        return rows;
    }

    static Object table(int columns, Object... cells) {
        Object[][] rows = new Object[cells.length / columns][];
        for (int k = 0; k < rows.length; k++) {
            rows[k] = Arrays.copyOfRange(cells, k * columns, (k + 1) * columns);
        }
        return rows;
    }

    static String times(String letters, int many) {
        return letters.repeat(many);
    }

    /** A function of each value alone that is no numeral and of one that is an error. */
    static void wantsNumber(int number, int place, Object... told) {
        with(number, place, "abc", Err.VALUE, told);
        with(number, place, "", Err.VALUE, told);
        wantsSingle(number, place, told);
    }

    /** An error in the place is the answer, and an array of more cells the error VALUE. */
    static void wantsSingle(int number, int place, Object... told) {
        with(number, place, Err.RING, Err.RING, told);
        with(number, place, row(1, 2), Err.VALUE, told);
        with(number, place, row(Err.NAME), Err.NAME, told);
    }

    static void wantsWhole(int number, int place, Object... told) {
        wantsNumber(number, place, told);
        with(number, place, 9007199254740992.0, Err.NUMBER, told);
        with(number, place, -9007199254740992.0, Err.NUMBER, told);
    }

    private static void with(int number, int place, Object changed, Object want, Object... told) {
        Object[] all = told.clone();
        all[place] = changed;
        function(number, want, all);
    }

    static void typeAll(Counted x, String letters) {
        for (int k = 0; k < letters.length(); k += 4) {
            int word = 0;
            for (int j = k; j < k + 4 && j < letters.length(); j++) {
                word = word << 8 | letters.charAt(j);
            }
            x.type(word);
        }
    }

    /** An object with these values, the last one the uppermost. */
    static Counted with(Object... told) {
        Counted x = new Counted();
        pushAll(x, told);
        return x;
    }

    /** Long texts that stand there already are put there again, for the fewer calls. */
    static void pushAll(Counted x, Object... told) {
        for (int k = 0; k < told.length; k++) {
            int before = 0;
            while (told[before] != told[k]) {
                before++;
            }
            if (before < k && told[k] instanceof String s && s.length() > 8) {
                x.again(k - 1 - before);
            } else {
                push(x, told[k]);
            }
        }
    }

    static void push(Counted x, Object told) {
        if (told == BLANK) {
            x.plain(0, 0);
        } else if (told instanceof Number n) {
            x.number(n.doubleValue());
        } else if (told instanceof String s) {
            typeAll(x, s);
            x.text();
        } else if (told instanceof Boolean b) {
            x.plain(3, b ? 1 : 0);
        } else if (told instanceof Err e) {
            x.plain(4, e.ordinal() + 1);
        } else if (told instanceof Object[][] rows) {
            for (Object[] cells : rows) {
                for (Object cell : cells) {
                    push(x, cell);
                }
            }
            x.array(rows.length, rows[0].length);
        } else {
            throw new IllegalArgumentException("no value: " + told);
        }
    }

    static Object read(Counted x, int depth) {
        int rows = x.about(depth, 1);
        int columns = x.about(depth, 2);
        if (x.about(depth, 0) != 5) {
            return rows == 1 && columns == 1 ? readCell(x, depth, 0, 0) : "a single value of " + rows + " by " + columns;
        }
        Object[][] cells = new Object[rows][columns];
        for (int r = 0; r < rows; r++) {
            for (int c = 0; c < columns; c++) {
                cells[r][c] = readCell(x, depth, r, c);
            }
        }
        return cells;
    }

    private static Object readCell(Counted x, int depth, int r, int c) {
        int code = x.cell(depth, r, c, 1);
        double amount = x.value(depth, r, c);
        int first = x.letter(depth, r, c, 0);
        int kind = x.cell(depth, r, c, 0);
        if (kind != 1 && amount != 0 || kind != 2 && first != ValueAlgebra.NONE
                || kind < 2 && code != 0 || 1 / amount < 0 && amount == 0) {
            return "kind " + kind + " with code " + code + ", amount " + amount + ", letter " + first;
        }
        switch (kind) {
            case 0: return BLANK;
            case 1: return amount;
            case 2: return readLetters(x, depth, r, c, code);
            case 3: return code == 1;
            case 4: return code >= 1 && code <= 8 ? Err.values()[code - 1] : "error " + code;
            default: return "kind " + kind;
        }
    }

    private static String readLetters(Counted x, int depth, int r, int c, int length) {
        StringBuilder read = new StringBuilder();
        for (int k = 0; k < length; k++) {
            read.append((char) x.letter(depth, r, c, k));
        }
        if (x.letter(depth, r, c, length) != ValueAlgebra.NONE || x.letter(depth, r, c, -1) != ValueAlgebra.NONE) {
            read.append(" and letters where none are");
        }
        return read.toString();
    }

    static boolean same(Object first, Object second) {
        if (first instanceof Object[][] a && second instanceof Object[][] b) {
            boolean same = a.length == b.length;
            for (int r = 0; same && r < a.length; r++) {
                same = a[r].length == b[r].length;
                for (int c = 0; same && c < a[r].length; c++) {
                    same = same(a[r][c], b[r][c]);
                }
            }
            return same;
        }
        if (first instanceof Number a && second instanceof Number b) {
            return a.doubleValue() == b.doubleValue();
        }
        return first.equals(second);
    }

    static String show(Object told) {
        if (told instanceof Object[][] rows) {
            StringBuilder shown = new StringBuilder("{");
            for (Object[] cells : rows) {
                shown.append(shown.length() > 1 ? "; " : "");
                for (int c = 0; c < cells.length; c++) {
                    shown.append(c > 0 ? ", " : "").append(show(cells[c]));
                }
            }
            return shown.append("}").toString();
        }
        return told instanceof String ? "\"" + told + "\"" : String.valueOf(told);
    }

    static void check(String call, Object got, Object want) {
        checks++;
        if (!same(got, want)) {
            wrong++;
            String of = sentence.isEmpty() ? "" : " [" + sentence + "]";
            System.out.println(call + " answered " + show(got) + ", due is " + show(want) + of);
        }
    }

    /** An operator of the values told, over another value that stays as it is. */
    static void operator(int number, Object want, Object... told) {
        Counted x = ready(told);
        x.operate(number);
        checkAnswer("operator " + number, x, want, told);
    }

    /** A function of the values told, over another value that stays as it is. */
    static void function(int number, Object want, Object... told) {
        Counted x = ready(told);
        x.call(number, told.length);
        checkAnswer("function " + number, x, want, told);
    }

    private static Counted ready(Object... told) {
        Counted x = new Counted();
        push(x, BENEATH);
        pushAll(x, told);
        return x;
    }

    private static void checkAnswer(String call, Counted x, Object want, Object... told) {
        StringBuilder shown = new StringBuilder(call);
        for (Object one : told) {
            shown.append(" ").append(show(one));
        }
        check(shown + " leaves", x.size(), 2);
        check(shown.toString(), read(x, 0), want);
        if (x.size() > 1) {
            check(shown + " beneath", read(x, 1), BENEATH);
        }
    }

    static Thrown thrownBy(Counted x, Step step) {
        try {
            step.on(x);
            return Thrown.NOTHING;
        } catch (RuntimeException e) {
            if (e.getClass() == IllegalArgumentException.class) {
                return Thrown.ARGUMENT;
            }
            if (e.getClass() == IllegalStateException.class) {
                return Thrown.STATE;
            }
            return e.getClass() == IndexOutOfBoundsException.class ? Thrown.BOUNDS : Thrown.OTHER;
        }
    }

    /**
     * A call that throws, and changes nothing: each value and the text under way are the same
     * as on an object that the call was not made on. Each is read on an object of its own, as
     * one object has not calls enough for all of them.
     */
    static void refused(String call, Thrown want, Maker maker, Step step) {
        Counted x = maker.make();
        check(call + " throws", thrownBy(x, step), want);
        int size = maker.make().size();
        check(call + " leaves so many values", x.size(), size);
        for (int depth = 0; depth < size; depth++) {
            check(call + " leaves at depth " + depth, readBehind(maker, step, depth), read(maker.make(), depth));
        }
        Counted y = maker.make();
        thrownBy(y, step);
        check(call + " leaves under way", underWay(y), underWay(maker.make()));
    }

    private static Object readBehind(Maker maker, Step step, int depth) {
        Counted x = maker.make();
        thrownBy(x, step);
        return x.size() > depth ? read(x, depth) : "no value";
    }

    /** The text under way, of an object that is not used any more. */
    private static Object underWay(Counted x) {
        if (x.size() == MOST_VALUES) {
            x.drop();
        }
        x.text();
        return read(x, 0);
    }

    /** To be the last call of a test. */
    static void end(String test) {
        System.out.println(test + ": " + checks + " checks, " + wrong + " wrong");
        if (wrong > 0 || checks == 0) {
            System.exit(1);
        }
    }
}

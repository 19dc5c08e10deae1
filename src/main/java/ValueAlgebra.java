/**
 * The values of sheets on a stack, with the operators and the functions that
 * reckon with them. The upper values are the arguments; the answer takes their place.
 */
public final class ValueAlgebra {
    public static final int NONE = -1;

    private static final int MOST_VALUES = 16;
    private static final int MOST_LETTERS = 255;
    private static final int FIRST_LETTER = 32;
    private static final int LAST_LETTER = 126;

    /** How many arguments each function takes at least, by its number. */
    private static final int[] FEWEST = {
        1, 1, 1, 1, 1, 1, 1, 1, 1, 1,
        2, 2, 2, 1, 1, 1, 2, 2, 2, 1,
        1, 1, 2, 2, 2, 1, 1, 1, 2, 1,
        1, 2, 2, 1, 1, 2, 2, 2, 2, 1,
        1, 1, 1, 0, 0, 0, 1, 1, 1, 1,
        1, 1, 1, 1, 1, 1, 1, 1, 1, 3,
        1, 1, 1, 1, 1, 2, 3, 4, 2, 2,
        2, 1, 1, 1, 1, 1, 2, 2, 3, 3,
        1, 3, 1, 1, 1, 1, 2, 2, 3, 1,
        1, 1};

    /** How many arguments each function takes at most, by its number. */
    private static final int[] MOST = {
        8, 8, 8, 8, 8, 8, 8, 8, 1, 8,
        2, 2, 2, 8, 8, 4, 2, 3, 3, 1,
        1, 1, 2, 2, 2, 8, 8, 1, 2, 1,
        1, 2, 2, 2, 2, 3, 2, 2, 8, 8,
        8, 8, 1, 0, 0, 0, 1, 1, 1, 1,
        1, 1, 1, 1, 1, 1, 1, 2, 2, 3,
        1, 1, 1, 1, 8, 2, 4, 4, 3, 3,
        2, 1, 1, 1, 1, 1, 3, 3, 4, 4,
        1, 3, 1, 1, 1, 2, 2, 2, 3, 1,
        1, 1};

    // An array is made of values of the stack, so it has at most 16 cells, and no function
    // answers a greater one: 16 values are never more than the 256 cells that the stack may
    // have, and only the number of values needs a look.
    private final Value[] stack = new Value[MOST_VALUES];
    private int count;
    private final StringBuilder underWay = new StringBuilder();
    private final Arguments arguments = new Arguments();

    public ValueAlgebra() {
        count = 0;
    }

    public void number(double v) throws IllegalStateException {
        push(Value.ofNumber(v));
    }

    public int type(int word) throws IllegalArgumentException, IllegalStateException {
        int added = 0;
        for (int shift = 24; shift >= 0; shift -= 8) {
            int code = (word >>> shift) & 255;
            if (code != 0) {
                if (code < FIRST_LETTER || code > LAST_LETTER) {
                    throw new IllegalArgumentException("a byte is no character 32 .. 126");
                }
                added++;
            }
        }
        if (underWay.length() + added > MOST_LETTERS) {
            throw new IllegalStateException("a text has at most 255 characters");
        }
        for (int shift = 24; shift >= 0; shift -= 8) {
            int code = (word >>> shift) & 255;
            if (code != 0) {
                underWay.append((char) code);
            }
        }
        return underWay.length();
    }

    public void text() throws IllegalStateException {
        push(Value.ofText(underWay.toString()));
        underWay.setLength(0);
    }

    public void plain(int kind, int v) throws IllegalArgumentException, IllegalStateException {
        if (kind == Value.NOTHING) {
            push(Value.ofNothing());
        } else if (kind == Value.TRUTH && (v == 0 || v == 1)) {
            push(Value.ofTruth(v == 1));
        } else if (kind == Value.ERROR && v >= 1 && v <= Value.LAST_ERROR) {
            push(Value.ofError(v));
        } else {
            throw new IllegalArgumentException("neither nothing, nor a truth, nor an error");
        }
    }

    public void array(int rows, int columns) throws IllegalArgumentException {
        if (rows < 1 || columns < 1) {
            throw new IllegalArgumentException("an array has a row and a column at least");
        }
        // Each is held against the count first, so that their product can't wrap around.
        if (rows > count || columns > count || rows * columns > count) {
            throw new IllegalArgumentException("there are not so many values");
        }
        int first = count - rows * columns;
        for (int place = first; place < count; place++) {
            if (stack[place].kind == Value.ARRAY) {
                throw new IllegalArgumentException("an array has no array as a cell");
            }
        }
        Value[] cells = new Value[rows * columns];
        for (int place = 0; place < cells.length; place++) {
            cells[place] = stack[first + place];
        }
        replaceUpper(cells.length, Value.ofCells(rows, columns, cells));
    }

    public void operate(int operator) throws IllegalArgumentException {
        if (operator < 0 || operator > Operators.LAST) {
            throw new IllegalArgumentException("there is no such operator");
        }
        int howMany = Operators.takesOne(operator) ? 1 : 2;
        if (count < howMany) {
            throw new IllegalArgumentException("there are not so many values");
        }
        arguments.take(stack, count - howMany, howMany);
        Value answer = Operators.answer(operator, arguments);
        replaceUpper(howMany, arguments.faultOr(answer));
    }

    public void call(int function, int n) throws IllegalArgumentException, IllegalStateException {
        if (function < 0 || function >= FEWEST.length || function >= MOST.length) {
            throw new IllegalArgumentException("there is no such function");
        }
        if (n < FEWEST[function] || n > MOST[function]) {
            throw new IllegalArgumentException("the function does not take so many arguments");
        }
        if (n > count) {
            throw new IllegalArgumentException("there are not so many values");
        }
        if (n == 0 && count >= MOST_VALUES) {
            throw new IllegalStateException("there is no room on the stack");
        }
        arguments.take(stack, count - n, n);
        Value answer;
        if (function <= Sums.LAST) {
            answer = Sums.answer(function, arguments);
        } else if (function <= Arithmetic.LAST) {
            answer = Arithmetic.answer(function, arguments);
        } else if (function <= Choices.LAST) {
            answer = Choices.answer(function, arguments);
        } else if (function <= Wording.LAST) {
            answer = Wording.answer(function, arguments);
        } else if (function <= Lookup.LAST) {
            answer = Lookup.answer(function, arguments);
        } else {
            answer = Days.answer(function, arguments);
        }
        replaceUpper(n, arguments.faultOr(answer));
    }

    public void drop() throws IllegalStateException {
        if (count == 0) {
            throw new IllegalStateException("there is no value");
        }
        count--;
        stack[count] = null;
    }

    public void again(int depth) throws IndexOutOfBoundsException, IllegalStateException {
        push(atDepth(depth));
    }

    public int size() {
        return count;
    }

    public int about(int depth, int what) throws IndexOutOfBoundsException, IllegalArgumentException {
        Value found = atDepth(depth);
        switch (what) {
            case 0: return found.kind;
            case 1: return found.rows;
            case 2: return found.columns;
            default: throw new IllegalArgumentException("only kind, rows and columns are told");
        }
    }

    public int cell(int depth, int row, int column, int what)
            throws IndexOutOfBoundsException, IllegalArgumentException {
        Value found = cellAtDepth(depth, row, column);
        switch (what) {
            case 0: return found.kind;
            case 1: return found.kind == Value.TEXT ? found.letters.length() : found.code;
            default: throw new IllegalArgumentException("only kind and measure are told");
        }
    }

    public double value(int depth, int row, int column) throws IndexOutOfBoundsException {
        return cellAtDepth(depth, row, column).amount;
    }

    public int letter(int depth, int row, int column, int k) throws IndexOutOfBoundsException {
        String letters = cellAtDepth(depth, row, column).letters;
        return k >= 0 && k < letters.length() ? letters.charAt(k) : NONE;
    }

    private void push(Value added) {
        if (count >= MOST_VALUES) {
            throw new IllegalStateException("there is no room on the stack");
        }
        stack[count] = added;
        count++;
    }

    private Value atDepth(int depth) {
        if (depth < 0 || depth >= count) {
            throw new IndexOutOfBoundsException("there is no value so far below");
        }
        return stack[count - 1 - depth];
    }

    private Value cellAtDepth(int depth, int row, int column) {
        Value found = atDepth(depth);
        if (row < 0 || row >= found.rows || column < 0 || column >= found.columns) {
            throw new IndexOutOfBoundsException("there is no such cell");
        }
        return found.cellAt(row * found.columns + column);
    }

    /** The callers have looked that there are so many values, and room for the answer of none. */
    private void replaceUpper(int howMany, Value answer) {
        for (int taken = 0; taken < howMany && count > 0; taken++) {
            count--;
            stack[count] = null;
        }
        push(answer);
    }

    /**
     * A single value, or an array of single values. It never changes, so that the stack may
     * hold the same one at several places.
     */
    private static final class Value {
        static final int NOTHING = 0;
        static final int NUMBER = 1;
        static final int TEXT = 2;
        static final int TRUTH = 3;
        static final int ERROR = 4;
        static final int ARRAY = 5;

        static final int DIVISION_ERROR = 2;
        static final int VALUE_ERROR = 3;
        static final int REFERENCE_ERROR = 4;
        static final int NUMBER_ERROR = 6;
        static final int NONE_ERROR = 7;
        static final int LAST_ERROR = 8;

        final int kind;
        /** A truth's 1 or 0, or an error's number; 0 of all others. */
        final int code;
        /** A number's; 0 of all others. */
        final double amount;
        /** A text's; none of all others, but never null. */
        final String letters;
        final int rows;
        final int columns;
        /** An array's, by rows; null of all others. */
        private final Value[] cells;

        private Value(int kind, int code, double amount, String letters,
                int rows, int columns, Value[] cells) {
            this.kind = kind;
            this.code = code;
            this.amount = amount;
            this.letters = letters;
            this.rows = rows;
            this.columns = columns;
            this.cells = cells;
        }

        static Value ofNothing() {
            return new Value(NOTHING, 0, 0.0, "", 1, 1, null);
        }

        /** What is reckoned ends here: what is not finite is the error, and -0 is 0. */
        static Value ofNumber(double x) {
            if (!isFinite(x)) {
                return new Value(ERROR, NUMBER_ERROR, 0.0, "", 1, 1, null);
            }
            return new Value(NUMBER, 0, x == 0 ? 0.0 : x, "", 1, 1, null);
        }

        static Value ofText(String letters) {
            if (letters.length() > MOST_LETTERS) {
                return new Value(ERROR, VALUE_ERROR, 0.0, "", 1, 1, null);
            }
            return new Value(TEXT, 0, 0.0, letters, 1, 1, null);
        }

        static Value ofTruth(boolean truth) {
            return new Value(TRUTH, truth ? 1 : 0, 0.0, "", 1, 1, null);
        }

        static Value ofError(int error) {
            return new Value(ERROR, error, 0.0, "", 1, 1, null);
        }

        static Value ofCells(int rows, int columns, Value[] cells) {
            return new Value(ARRAY, 0, 0.0, "", rows, columns, cells);
        }

        static boolean isFinite(double x) {
            return x >= -1.7976931348623157E308 && x <= 1.7976931348623157E308;
        }

        int howManyCells() {
            return rows * columns;
        }

        /** By rows, of a place that there is; a single value is an array of one cell here. */
        Value cellAt(int place) {
            if (cells == null || place < 0 || place >= cells.length) {
                return this;
            }
            return cells[place];
        }

        Value cellIn(int row, int column) {
            return cellAt(row * columns + column);
        }

        boolean isOfShape(Value other) {
            return rows == other.rows && columns == other.columns;
        }

        boolean isLine() {
            return rows == 1 || columns == 1;
        }
    }

    /** What texts are: great and small letters, their order, numerals, and numbers written. */
    private static final class Letters {
        private static final int MOST_DIGITS = 15;
        private static final int DIGITS_BEHIND = 9;

        private Letters() {
        }

        static boolean isLetter(char c) {
            return great(c) >= 'A' && great(c) <= 'Z';
        }

        static char great(char c) {
            return c >= 'a' && c <= 'z' ? (char) (c - 'a' + 'A') : c;
        }

        static char small(char c) {
            return c >= 'A' && c <= 'Z' ? (char) (c - 'A' + 'a') : c;
        }

        /** Below, at or above 0 as the first comes before, with or behind the second. */
        static int order(String first, String second) {
            int both = Math.min(first.length(), second.length());
            for (int place = 0; place < both; place++) {
                int difference = great(first.charAt(place)) - great(second.charAt(place));
                if (difference != 0) {
                    return difference;
                }
            }
            return first.length() - second.length();
        }

        static boolean standsAt(String part, String whole, int place) {
            if (place < 0 || place + part.length() > whole.length()) {
                return false;
            }
            for (int k = 0; k < part.length(); k++) {
                if (part.charAt(k) != whole.charAt(place + k)) {
                    return false;
                }
            }
            return true;
        }

        static boolean isNumeral(String letters) {
            int place = behindSpaces(letters, 0);
            if (place < letters.length() && letters.charAt(place) == '-') {
                place++;
            }
            int digits = 0;
            int dots = 0;
            while (place < letters.length() && isOfDigits(letters.charAt(place))) {
                if (letters.charAt(place) == '.') {
                    dots++;
                } else {
                    digits++;
                }
                place++;
            }
            if (place < letters.length() && letters.charAt(place) == '%') {
                place++;
            }
            return digits >= 1 && digits <= MOST_DIGITS && dots <= 1
                    && behindSpaces(letters, place) == letters.length();
        }

        private static int behindSpaces(String letters, int from) {
            int place = from;
            while (place < letters.length() && letters.charAt(place) == ' ') {
                place++;
            }
            return place;
        }

        private static boolean isOfDigits(char c) {
            return c == '.' || c >= '0' && c <= '9';
        }

        /** Only of a numeral: so each sign in it can stand at its one place alone. */
        static double numeral(String letters) {
            long whole = 0;
            int behind = 0;
            boolean dotted = false;
            for (int place = 0; place < letters.length(); place++) {
                char c = letters.charAt(place);
                dotted = dotted || c == '.';
                if (c >= '0' && c <= '9') {
                    whole = whole * 10 + (c - '0');
                    behind += dotted ? 1 : 0;
                }
            }
            double x = behind > 0 ? whole / Arithmetic.tenTo(behind) : whole;
            if (letters.indexOf('%') >= 0) {
                x = x / 100;
            }
            return letters.indexOf('-') >= 0 ? 0 - x : x;
        }

        static boolean canBeWritten(double x) {
            return x < 1e15 && x > -1e15;
        }

        /** Only of a number that can be written. */
        static String written(double x) {
            StringBuilder digits = new StringBuilder();
            double y = x < 0 ? 0 - x : x;
            if (y == Arithmetic.wholePart(y)) {
                appendBackwards(digits, (long) y, NONE);
            } else if (y < 1e6) {
                appendBackwards(digits, (long) (y * 1e9 + 0.5), DIGITS_BEHIND);
            } else {
                appendBackwards(digits, (long) (y + 0.5), NONE);
            }
            if (x < 0) {
                digits.append('-');
            }
            digits.reverse();
            if (y != Arithmetic.wholePart(y) && y < 1e6) {
                leaveOutZeros(digits);
            }
            return digits.toString();
        }

        /** The last digit first; the dot when so many digits stand, if it is to stand at all. */
        private static void appendBackwards(StringBuilder digits, long whole, int behind) {
            long rest = whole;
            for (int place = 0; place < 19 && (rest > 0 || place <= behind || place == 0); place++) {
                if (place == behind) {
                    digits.append('.');
                }
                digits.append((char) ('0' + rest % 10));
                rest /= 10;
            }
        }

        private static void leaveOutZeros(StringBuilder digits) {
            int end = digits.length();
            while (end > 1 && digits.charAt(end - 1) == '0') {
                end--;
            }
            if (end > 1 && digits.charAt(end - 1) == '.') {
                end--;
            }
            digits.setLength(end);
        }
    }

    /** A pattern, and which texts are like it. */
    private static final class Likeness {
        private static final int ANY_ONE = -1;
        private static final int ANY_MANY = -2;

        /** The pattern's characters, great, or one of the two above. */
        private final int[] marks = new int[MOST_LETTERS];
        private int howMany;
        /** The text's characters, great. */
        private final char[] looked = new char[MOST_LETTERS];
        /** From which places of the text on the marks that were looked at can stand. */
        private final boolean[] open = new boolean[MOST_LETTERS + 1];

        void prepare(String pattern) {
            howMany = 0;
            int place = 0;
            while (place < pattern.length() && howMany < marks.length) {
                char c = pattern.charAt(place);
                char next = place + 1 < pattern.length() ? pattern.charAt(place + 1) : ' ';
                if (c == '~' && (next == '?' || next == '*' || next == '~')) {
                    marks[howMany] = next;
                    place += 2;
                } else {
                    marks[howMany] = c == '?' ? ANY_ONE : c == '*' ? ANY_MANY : Letters.great(c);
                    place++;
                }
                howMany++;
            }
        }

        boolean isMetBy(String letters) {
            look(letters, false);
            return open[0];
        }

        /** The first place from one on where some characters are like the pattern, or NONE. */
        int firstPlace(String letters, int from) {
            look(letters, true);
            for (int place = Math.max(from, 0); place <= letters.length() && place < open.length; place++) {
                if (open[place]) {
                    return place;
                }
            }
            return NONE;
        }

        // From the pattern's end to its start all places of the text are kept together:
        // so the work is their product, however many * there are.
        private void look(String letters, boolean mayEndAnywhere) {
            int end = Math.min(letters.length(), MOST_LETTERS);
            for (int place = 0; place <= end; place++) {
                open[place] = mayEndAnywhere || place == end;
            }
            for (int place = 0; place < end; place++) {
                looked[place] = Letters.great(letters.charAt(place));
            }
            for (int k = howMany - 1; k >= 0; k--) {
                if (marks[k] == ANY_MANY) {
                    stepOverMany(end);
                } else {
                    stepOverOne(end, marks[k]);
                }
            }
        }

        private void stepOverMany(int end) {
            for (int place = end - 1; place >= 0; place--) {
                open[place] = open[place] || open[place + 1];
            }
        }

        private void stepOverOne(int end, int mark) {
            for (int place = 0; place < end; place++) {
                boolean fits = mark == ANY_ONE || mark == looked[place];
                open[place] = fits && open[place + 1];
            }
            open[end] = false;
        }
    }

    /** What the cells of COUNTIF and its kin have to meet. */
    private static final class Criterion {
        private final int relation;
        private final Value wanted;
        private final Likeness likeness;

        private Criterion(int relation, Value wanted, Likeness likeness) {
            this.relation = relation;
            this.wanted = wanted;
            this.likeness = likeness;
        }

        static Criterion of(Value told, Likeness likeness) {
            Value wanted = wantedOf(told);
            likeness.prepare(wanted.letters);
            return new Criterion(relationOf(told.letters), wanted, likeness);
        }

        private static int relationOf(String letters) {
            char first = letters.isEmpty() ? ' ' : letters.charAt(0);
            char second = letters.length() < 2 ? ' ' : letters.charAt(1);
            if (first == '<') {
                return second == '>' ? Operators.UNEQUAL
                        : second == '=' ? Operators.NOT_ABOVE : Operators.BELOW;
            }
            if (first == '>') {
                return second == '=' ? Operators.NOT_BELOW : Operators.ABOVE;
            }
            return Operators.EQUAL;
        }

        private static Value wantedOf(Value told) {
            if (told.kind == Value.NOTHING) {
                return Value.ofNumber(0);
            }
            if (told.kind != Value.TEXT) {
                return told;
            }
            String rest = told.letters.substring(signLength(told.letters));
            return Letters.isNumeral(rest)
                    ? Value.ofNumber(Letters.numeral(rest)) : Value.ofText(rest);
        }

        private static int signLength(String letters) {
            switch (relationOf(letters)) {
                case Operators.UNEQUAL:
                case Operators.NOT_ABOVE:
                case Operators.NOT_BELOW:
                    return 2;
                case Operators.BELOW:
                case Operators.ABOVE:
                    return 1;
                default:
                    return !letters.isEmpty() && letters.charAt(0) == '=' ? 1 : 0;
            }
        }

        boolean isMetBy(Value cell) {
            if (cell.kind == Value.ERROR || wanted.kind == Value.ERROR) {
                return false;
            }
            boolean byLikeness = wanted.kind == Value.TEXT
                    && (relation == Operators.EQUAL || relation == Operators.UNEQUAL);
            if (cell.kind != wanted.kind) {
                return relation == Operators.UNEQUAL || byLikeness && isBothEmpty(cell);
            }
            if (byLikeness) {
                return likeness.isMetBy(cell.letters) == (relation == Operators.EQUAL);
            }
            return Operators.stands(relation, Operators.order(cell, wanted));
        }

        private boolean isBothEmpty(Value cell) {
            return cell.kind == Value.NOTHING && wanted.letters.isEmpty();
        }
    }

    /**
     * The arguments of one call, and what they become where another is wanted. The first
     * error that is met so is kept: it is the answer, whatever is reckoned behind it. So a
     * function looks at all that it wants, in the arguments' order, before anything else.
     */
    private static final class Arguments {
        private static final int MOST_GIVEN = 8;
        private static final int NO_FAULT = 0;

        /** As they were given, and as the single values that they are where such are wanted. */
        private final Value[] given = new Value[MOST_GIVEN];
        private final Value[] singles = new Value[MOST_GIVEN];
        private int howMany;
        private int fault;
        private final double[] row = new double[MOST_GIVEN * MOST_VALUES];
        private int inRow;
        private final Value nothing = Value.ofNothing();
        private final Value noSingle = Value.ofError(Value.VALUE_ERROR);
        final Likeness likeness = new Likeness();

        /** The caller has looked that there are so many values, and the function takes them. */
        void take(Value[] from, int first, int many) {
            howMany = 0;
            for (int k = 0; k < many && k < MOST_GIVEN && first >= 0 && first + k < from.length; k++) {
                Value found = from[first + k];
                given[k] = found;
                singles[k] = found.howManyCells() == 1 ? found.cellAt(0) : noSingle;
                howMany++;
            }
            fault = NO_FAULT;
            inRow = 0;
        }

        int howMany() {
            return howMany;
        }

        Value faultOr(Value answer) {
            return fault == NO_FAULT ? answer : Value.ofError(fault);
        }

        void blame(int error) {
            if (fault == NO_FAULT) {
                fault = error;
            }
        }

        /** As it was given, an array as well. */
        Value raw(int k) {
            return k >= 0 && k < howMany ? given[k] : nothing;
        }

        /** A single value, an error too. */
        Value single(int k) {
            return k >= 0 && k < howMany ? singles[k] : nothing;
        }

        /** A single value, and an error is the answer. */
        Value sound(int k) {
            Value found = single(k);
            if (found.kind == Value.ERROR) {
                blame(found.code);
            }
            return found;
        }

        double amount(int k) {
            Value found = sound(k);
            switch (found.kind) {
                case Value.NUMBER:
                    return found.amount;
                case Value.TRUTH:
                    return found.code;
                case Value.TEXT:
                    if (!Letters.isNumeral(found.letters)) {
                        blame(Value.VALUE_ERROR);
                        return 0;
                    }
                    return Letters.numeral(found.letters);
                default:
                    return 0;
            }
        }

        long whole(int k) {
            double x = amount(k);
            if (!Arithmetic.isWithinWhole(x)) {
                blame(Value.NUMBER_ERROR);
                return 0;
            }
            return (long) x;
        }

        long wholeOr(int k, long without) {
            return k < howMany ? whole(k) : without;
        }

        String lettersOf(int k) {
            Value found = sound(k);
            switch (found.kind) {
                case Value.TRUTH:
                    return found.code == 1 ? "TRUE" : "FALSE";
                case Value.NUMBER:
                    if (!Letters.canBeWritten(found.amount)) {
                        blame(Value.VALUE_ERROR);
                        return "";
                    }
                    return Letters.written(found.amount);
                default:
                    return found.letters;
            }
        }

        boolean truth(int k) {
            Value found = sound(k);
            if (found.kind != Value.TEXT) {
                return found.amount != 0 || found.kind == Value.TRUTH && found.code == 1;
            }
            boolean affirmed = Letters.order(found.letters, "TRUE") == 0;
            if (!affirmed && Letters.order(found.letters, "FALSE") != 0) {
                blame(Value.VALUE_ERROR);
            }
            return affirmed;
        }

        boolean truthOr(int k, boolean without) {
            return k < howMany ? truth(k) : without;
        }

        /** A row of numbers of all arguments. */
        void gather() {
            for (int k = 0; k < howMany; k++) {
                if (raw(k).kind == Value.ARRAY) {
                    gatherCells(k);
                } else {
                    addToRow(amount(k));
                }
            }
        }

        /** A row of numbers of one argument, a single value being an array of one cell. */
        void gatherCells(int k) {
            Value found = raw(k);
            blameCells(k);
            for (int place = 0; place < found.howManyCells(); place++) {
                Value cell = found.cellAt(place);
                if (cell.kind == Value.NUMBER) {
                    addToRow(cell.amount);
                }
            }
        }

        /** An error among the cells is the answer. */
        void blameCells(int k) {
            Value found = raw(k);
            for (int place = 0; place < found.howManyCells(); place++) {
                if (found.cellAt(place).kind == Value.ERROR) {
                    blame(found.cellAt(place).code);
                }
            }
        }

        private void addToRow(double x) {
            if (inRow < row.length) {
                row[inRow] = x;
                inRow++;
            }
        }

        int inRow() {
            return inRow;
        }

        double ofRow(int place) {
            return place >= 0 && place < inRow ? row[place] : 0;
        }

        void sortRow() {
            for (int from = 1; from < inRow; from++) {
                double moved = row[from];
                int place = from;
                while (place > 0 && row[place - 1] > moved) {
                    row[place] = row[place - 1];
                    place--;
                }
                row[place] = moved;
            }
        }
    }

    /** The operators, and the order that some of them ask for. */
    private static final class Operators {
        private static final int NEGATIVE = 0;
        private static final int HUNDREDTH = 1;
        private static final int POWER = 2;
        private static final int TIMES = 3;
        private static final int DIVIDED = 4;
        private static final int PLUS = 5;
        private static final int LESS = 6;
        private static final int JOINED = 7;
        static final int EQUAL = 8;
        static final int UNEQUAL = 9;
        static final int BELOW = 10;
        static final int ABOVE = 11;
        static final int NOT_ABOVE = 12;
        static final int NOT_BELOW = 13;
        static final int LAST = 13;

        private Operators() {
        }

        static boolean takesOne(int operator) {
            return operator == NEGATIVE || operator == HUNDREDTH;
        }

        static Value answer(int operator, Arguments arguments) {
            if (takesOne(operator)) {
                double x = arguments.amount(0);
                return Value.ofNumber(operator == NEGATIVE ? 0 - x : x / 100);
            }
            if (operator == JOINED) {
                return joined(arguments.lettersOf(0), arguments.lettersOf(1));
            }
            if (operator > JOINED) {
                int order = order(arguments.sound(0), arguments.sound(1));
                return Value.ofTruth(stands(operator, order));
            }
            return reckoned(operator, arguments.amount(0), arguments.amount(1));
        }

        private static Value joined(String first, String second) {
            StringBuilder both = new StringBuilder();
            both.append(first);
            both.append(second);
            return Value.ofText(both.toString());
        }

        private static Value reckoned(int operator, double x, double y) {
            switch (operator) {
                case POWER:
                    return Arithmetic.power(x, y);
                case TIMES:
                    return Value.ofNumber(x * y);
                case DIVIDED:
                    return y == 0 ? Value.ofError(Value.DIVISION_ERROR) : Value.ofNumber(x / y);
                case PLUS:
                    return Value.ofNumber(x + y);
                case LESS:
                    return Value.ofNumber(x - y);
                default:
                    return Value.ofError(Value.VALUE_ERROR);
            }
        }

        /**
         * Below, at or above 0 as the first of two single values stands to the second. The
         * kinds' numbers are in the order of the kinds, and nothing has the amount 0, no
         * characters and the truth's code 0, so that it is compared as the other's kind.
         */
        static int order(Value first, Value second) {
            int kind = first.kind == Value.NOTHING ? second.kind : first.kind;
            int otherKind = second.kind == Value.NOTHING ? kind : second.kind;
            if (kind != otherKind) {
                return kind - otherKind;
            }
            switch (kind) {
                case Value.NUMBER:
                    return first.amount < second.amount ? -1 : first.amount > second.amount ? 1 : 0;
                case Value.TEXT:
                    return Letters.order(first.letters, second.letters);
                default:
                    return first.code - second.code;
            }
        }

        static boolean stands(int relation, int order) {
            switch (relation) {
                case EQUAL: return order == 0;
                case UNEQUAL: return order != 0;
                case BELOW: return order < 0;
                case ABOVE: return order > 0;
                case NOT_ABOVE: return order <= 0;
                default: return order >= 0;
            }
        }
    }

    /** The functions 0 to 18. */
    private static final class Sums {
        private static final int SUM = 0;
        private static final int PRODUCT = 1;
        private static final int SUMSQ = 2;
        private static final int AVERAGE = 3;
        private static final int MIN = 4;
        private static final int MAX = 5;
        private static final int COUNT = 6;
        private static final int COUNTA = 7;
        private static final int COUNTBLANK = 8;
        private static final int MEDIAN = 9;
        private static final int LARGE = 10;
        private static final int SMALL = 11;
        private static final int RANK = 12;
        private static final int VARP = 13;
        private static final int VAR = 14;
        private static final int SUMPRODUCT = 15;
        private static final int COUNTIF = 16;
        private static final int SUMIF = 17;
        private static final int AVERAGEIF = 18;
        static final int LAST = 18;

        private Sums() {
        }

        static Value answer(int function, Arguments arguments) {
            switch (function) {
                case COUNT:
                case COUNTA:
                case COUNTBLANK:
                    return counted(function, arguments);
                case LARGE:
                case SMALL:
                    return atRank(function, arguments);
                case RANK:
                    return rank(arguments);
                case SUMPRODUCT:
                    return sumOfProducts(arguments);
                case COUNTIF:
                case SUMIF:
                case AVERAGEIF:
                    return ofThoseMeeting(function, arguments);
                default:
                    arguments.gather();
                    return ofRow(function, arguments);
            }
        }

        private static Value ofRow(int function, Arguments arguments) {
            switch (function) {
                case SUM:
                    return Value.ofNumber(sum(arguments));
                case PRODUCT:
                    return Value.ofNumber(product(arguments));
                case SUMSQ:
                    return Value.ofNumber(sumOfSquares(arguments, 0));
                case AVERAGE:
                    return average(arguments);
                case MIN:
                case MAX:
                    return Value.ofNumber(extreme(arguments, function == MAX));
                case MEDIAN:
                    return median(arguments);
                case VARP:
                    return variance(arguments, arguments.inRow());
                case VAR:
                    return variance(arguments, arguments.inRow() - 1);
                default:
                    return Value.ofError(Value.VALUE_ERROR);
            }
        }

        // A step that is not finite ends each of the three loops below: what comes behind
        // it could not make it finite, but could make it no number at all.
        private static double sum(Arguments arguments) {
            double sum = 0;
            for (int k = 0; k < arguments.inRow() && Value.isFinite(sum); k++) {
                sum += arguments.ofRow(k);
            }
            return sum;
        }

        private static double product(Arguments arguments) {
            double product = arguments.inRow() == 0 ? 0 : 1;
            for (int k = 0; k < arguments.inRow() && Value.isFinite(product); k++) {
                product *= arguments.ofRow(k);
            }
            return product;
        }

        private static double sumOfSquares(Arguments arguments, double middle) {
            double sum = 0;
            for (int k = 0; k < arguments.inRow() && Value.isFinite(sum); k++) {
                double x = arguments.ofRow(k) - middle;
                sum += x * x;
            }
            return sum;
        }

        private static Value average(Arguments arguments) {
            if (arguments.inRow() == 0) {
                return Value.ofError(Value.DIVISION_ERROR);
            }
            return Value.ofNumber(sum(arguments) / arguments.inRow());
        }

        private static double extreme(Arguments arguments, boolean greatest) {
            double found = arguments.ofRow(0);
            for (int k = 1; k < arguments.inRow(); k++) {
                double x = arguments.ofRow(k);
                if (greatest ? x > found : x < found) {
                    found = x;
                }
            }
            return found;
        }

        private static Value median(Arguments arguments) {
            int howMany = arguments.inRow();
            if (howMany == 0) {
                return Value.ofError(Value.NUMBER_ERROR);
            }
            arguments.sortRow();
            double upper = arguments.ofRow(howMany / 2);
            if (howMany % 2 == 1) {
                return Value.ofNumber(upper);
            }
            return Value.ofNumber((arguments.ofRow(howMany / 2 - 1) + upper) / 2);
        }

        private static Value variance(Arguments arguments, int divisor) {
            Value middle = average(arguments);
            if (middle.kind == Value.ERROR) {
                return middle;
            }
            double sum = sumOfSquares(arguments, middle.amount);
            if (!Value.isFinite(sum)) {
                return Value.ofError(Value.NUMBER_ERROR);
            }
            return divisor > 0 ? Value.ofNumber(sum / divisor) : Value.ofError(Value.DIVISION_ERROR);
        }

        private static Value counted(int function, Arguments arguments) {
            int found = 0;
            for (int k = 0; k < arguments.howMany(); k++) {
                Value given = arguments.raw(k);
                for (int place = 0; place < given.howManyCells(); place++) {
                    if (counts(function, given.cellAt(place), given.kind != Value.ARRAY)) {
                        found++;
                    }
                }
            }
            return Value.ofNumber(found);
        }

        private static boolean counts(int function, Value cell, boolean alone) {
            if (function == COUNTBLANK) {
                return cell.kind == Value.NOTHING || cell.kind == Value.TEXT && cell.letters.isEmpty();
            }
            if (function == COUNTA) {
                return alone || cell.kind != Value.NOTHING;
            }
            if (!alone || cell.kind == Value.NUMBER) {
                return cell.kind == Value.NUMBER;
            }
            if (cell.kind == Value.TEXT) {
                return Letters.isNumeral(cell.letters);
            }
            return cell.kind == Value.NOTHING || cell.kind == Value.TRUTH;
        }

        private static Value atRank(int function, Arguments arguments) {
            arguments.gatherCells(0);
            long rank = arguments.whole(1);
            int howMany = arguments.inRow();
            if (rank < 1 || rank > howMany) {
                return Value.ofError(Value.NUMBER_ERROR);
            }
            arguments.sortRow();
            int place = (int) (function == LARGE ? howMany - rank : rank - 1);
            return Value.ofNumber(arguments.ofRow(place));
        }

        private static Value rank(Arguments arguments) {
            double x = arguments.amount(0);
            arguments.gatherCells(1);
            int greater = 0;
            boolean among = false;
            for (int k = 0; k < arguments.inRow(); k++) {
                greater += arguments.ofRow(k) > x ? 1 : 0;
                among = among || arguments.ofRow(k) == x;
            }
            return among ? Value.ofNumber(1 + greater) : Value.ofError(Value.NONE_ERROR);
        }

        private static Value sumOfProducts(Arguments arguments) {
            Value first = arguments.raw(0);
            boolean sameShape = true;
            for (int k = 0; k < arguments.howMany(); k++) {
                arguments.blameCells(k);
                sameShape = sameShape && first.isOfShape(arguments.raw(k));
            }
            if (!sameShape) {
                return Value.ofError(Value.VALUE_ERROR);
            }
            double sum = 0;
            for (int place = 0; place < first.howManyCells() && Value.isFinite(sum); place++) {
                double product = productAt(arguments, place);
                if (!Value.isFinite(product)) {
                    return Value.ofError(Value.NUMBER_ERROR);
                }
                sum += product;
            }
            return Value.ofNumber(sum);
        }

        private static double productAt(Arguments arguments, int place) {
            double product = 1;
            for (int k = 0; k < arguments.howMany() && Value.isFinite(product); k++) {
                // What is no number has the amount 0.
                product *= arguments.raw(k).cellAt(place).amount;
            }
            return product;
        }

        private static Value ofThoseMeeting(int function, Arguments arguments) {
            Value looked = arguments.raw(0);
            Criterion criterion = Criterion.of(arguments.sound(1), arguments.likeness);
            Value summed = arguments.howMany() > 2 ? arguments.raw(2) : looked;
            if (!summed.isOfShape(looked)) {
                return Value.ofError(Value.VALUE_ERROR);
            }
            int met = 0;
            int numbers = 0;
            double sum = 0;
            for (int place = 0; place < looked.howManyCells() && Value.isFinite(sum); place++) {
                if (criterion.isMetBy(looked.cellAt(place))) {
                    met++;
                    numbers += summed.cellAt(place).kind == Value.NUMBER ? 1 : 0;
                    // COUNTIF goes on where a sum would not be finite.
                    sum += function == COUNTIF ? 0 : summed.cellAt(place).amount;
                }
            }
            if (function == COUNTIF) {
                return Value.ofNumber(met);
            }
            if (function == SUMIF) {
                return Value.ofNumber(sum);
            }
            return numbers == 0 ? Value.ofError(Value.DIVISION_ERROR) : Value.ofNumber(sum / numbers);
        }
    }

    /** The functions 19 to 34. */
    private static final class Arithmetic {
        private static final int ABS = 19;
        private static final int SIGN = 20;
        private static final int INT = 21;
        private static final int POWER = 22;
        private static final int MOD = 23;
        private static final int QUOTIENT = 24;
        private static final int GCD = 25;
        private static final int LCM = 26;
        private static final int FACT = 27;
        private static final int COMBIN = 28;
        private static final int EVEN = 29;
        private static final int ODD = 30;
        private static final int CEILING = 31;
        private static final int FLOOR = 32;
        private static final int TRUNC = 33;
        private static final int ROUND = 34;
        static final int LAST = 34;

        /** 2 to the power of 53: from there on each number is whole. */
        private static final long ALL_WHOLE = 9007199254740992L;
        private static final int GREATEST_POWER = 1023;
        private static final int GREATEST_FACTORIAL = 170;
        private static final int GREATEST_CHOICE = 1000;
        private static final int MOST_PLACES = 9;

        private Arithmetic() {
        }

        static Value answer(int function, Arguments arguments) {
            switch (function) {
                case ABS:
                    return Value.ofNumber(sizeOf(arguments.amount(0)));
                case SIGN:
                    return Value.ofNumber(sign(arguments.amount(0)));
                case INT:
                    return Value.ofNumber(floor(arguments.amount(0)));
                case POWER:
                    return power(arguments.amount(0), arguments.amount(1));
                case MOD:
                    return modulo(arguments.amount(0), arguments.amount(1));
                case QUOTIENT:
                    return quotient(arguments.amount(0), arguments.amount(1));
                case GCD:
                case LCM:
                    return ofDivisors(function, arguments);
                case FACT:
                    return factorial(arguments.whole(0));
                case COMBIN:
                    return combinations(arguments.whole(0), arguments.whole(1));
                case EVEN:
                    return even(arguments.amount(0));
                case ODD:
                    return odd(arguments.amount(0));
                case CEILING:
                    return ceilingTo(arguments.amount(0), arguments.amount(1));
                case FLOOR:
                    return floorTo(arguments.amount(0), arguments.amount(1));
                case TRUNC:
                    return toPlaces(arguments.amount(0), arguments.wholeOr(1, 0), 0);
                case ROUND:
                    return toPlaces(arguments.amount(0), arguments.wholeOr(1, 0), 0.5);
                default:
                    return Value.ofError(Value.VALUE_ERROR);
            }
        }

        static boolean isWithinWhole(double x) {
            return x < ALL_WHOLE && x > -ALL_WHOLE;
        }

        /** Cut off towards 0. */
        static double wholePart(double x) {
            return isWithinWhole(x) ? (double) (long) x : x;
        }

        static double floor(double x) {
            double whole = wholePart(x);
            return whole > x ? whole - 1 : whole;
        }

        private static double ceiling(double x) {
            double whole = wholePart(x);
            return whole < x ? whole + 1 : whole;
        }

        private static double sizeOf(double x) {
            return x < 0 ? 0 - x : x;
        }

        private static int sign(double x) {
            return x < 0 ? -1 : x > 0 ? 1 : 0;
        }

        /** So far as it is asked for, binary64 has it exactly. */
        static double tenTo(long exponent) {
            double power = 1;
            for (int k = 0; k < exponent && k < 22; k++) {
                power *= 10;
            }
            return power;
        }

        static Value power(double base, double exponent) {
            if (exponent < -GREATEST_POWER || exponent > GREATEST_POWER
                    || wholePart(exponent) != exponent) {
                return Value.ofError(Value.NUMBER_ERROR);
            }
            if (base == 0 && exponent <= 0) {
                return Value.ofError(exponent == 0 ? Value.NUMBER_ERROR : Value.DIVISION_ERROR);
            }
            double result = powerOfSize(base, (int) sizeOf(exponent));
            if (!Value.isFinite(result) || exponent < 0 && result == 0) {
                return Value.ofError(Value.NUMBER_ERROR);
            }
            return Value.ofNumber(exponent < 0 ? 1 / result : result);
        }

        /** What is not finite is handed back at once: it is the answer, whatever would follow. */
        private static double powerOfSize(double base, int exponent) {
            double result = 1;
            double square = base;
            for (int rest = exponent; rest > 0; rest /= 2) {
                if (rest % 2 == 1) {
                    result *= square;
                }
                if (!Value.isFinite(result)) {
                    return result;
                }
                if (rest > 1) {
                    square *= square;
                }
                if (!Value.isFinite(square)) {
                    return square;
                }
            }
            return result;
        }

        private static Value modulo(double x, double y) {
            if (y == 0) {
                return Value.ofError(Value.DIVISION_ERROR);
            }
            double times = x / y;
            if (!Value.isFinite(times)) {
                return Value.ofError(Value.NUMBER_ERROR);
            }
            return Value.ofNumber(x - y * floor(times));
        }

        private static Value quotient(double x, double y) {
            if (y == 0) {
                return Value.ofError(Value.DIVISION_ERROR);
            }
            return Value.ofNumber(wholePart(x / y));
        }

        private static Value ofDivisors(int function, Arguments arguments) {
            boolean below = false;
            boolean anyZero = false;
            long divisor = 0;
            for (int k = 0; k < arguments.howMany(); k++) {
                long x = arguments.whole(k);
                below = below || x < 0;
                anyZero = anyZero || x == 0;
                divisor = commonDivisor(divisor, x);
            }
            if (below) {
                return Value.ofError(Value.NUMBER_ERROR);
            }
            if (function == GCD) {
                return Value.ofNumber(divisor);
            }
            return anyZero ? Value.ofNumber(0) : commonMultiple(arguments);
        }

        /** Each of two steps halves the greater one at least, so a hundred and some are enough. */
        private static long commonDivisor(long first, long second) {
            long x = first;
            long y = second;
            for (int step = 0; step < 200 && y != 0; step++) {
                long rest = x % y;
                x = y;
                y = rest;
            }
            return x;
        }

        /** Of numbers above 0. */
        private static Value commonMultiple(Arguments arguments) {
            long multiple = 1;
            for (int k = 0; k < arguments.howMany(); k++) {
                long x = arguments.whole(k);
                long divisor = commonDivisor(multiple, x);
                long factor = divisor == 0 ? 0 : x / divisor;
                if (factor < 1 || multiple > (ALL_WHOLE - 1) / factor) {
                    return Value.ofError(Value.NUMBER_ERROR);
                }
                multiple *= factor;
            }
            return Value.ofNumber(multiple);
        }

        private static Value factorial(long n) {
            if (n < 0 || n > GREATEST_FACTORIAL) {
                return Value.ofError(Value.NUMBER_ERROR);
            }
            double product = 1;
            for (int factor = 2; factor <= n; factor++) {
                product *= factor;
            }
            return Value.ofNumber(product);
        }

        private static Value combinations(long m, long k) {
            if (k < 0 || k > m || m > GREATEST_CHOICE) {
                return Value.ofError(Value.NUMBER_ERROR);
            }
            double result = 1;
            for (int j = 1; j <= k; j++) {
                result *= m - k + j;
                result /= j;
            }
            return Value.ofNumber(result);
        }

        private static Value even(double x) {
            if (!isWithinWhole(x)) {
                return Value.ofNumber(x);
            }
            long least = (long) ceiling(sizeOf(x));
            return Value.ofNumber(sign(x) * (double) (least + least % 2));
        }

        private static Value odd(double x) {
            if (!isWithinWhole(x)) {
                return Value.ofNumber(x + sign(x));
            }
            long least = (long) ceiling(sizeOf(x));
            double size = least + 1 - least % 2;
            return Value.ofNumber(x < 0 ? 0 - size : size);
        }

        private static Value ceilingTo(double x, double y) {
            if (y == 0) {
                return Value.ofNumber(0);
            }
            return x > 0 && y < 0 ? Value.ofError(Value.NUMBER_ERROR) : timesWhole(y, x / y, true);
        }

        private static Value floorTo(double x, double y) {
            if (y == 0) {
                return x == 0 ? Value.ofNumber(0) : Value.ofError(Value.DIVISION_ERROR);
            }
            return x > 0 && y < 0 ? Value.ofError(Value.NUMBER_ERROR) : timesWhole(y, x / y, false);
        }

        private static Value timesWhole(double y, double times, boolean upwards) {
            if (!Value.isFinite(times)) {
                return Value.ofError(Value.NUMBER_ERROR);
            }
            return Value.ofNumber(y * (upwards ? ceiling(times) : floor(times)));
        }

        private static Value toPlaces(double x, long places, double added) {
            if (places < -MOST_PLACES || places > MOST_PLACES) {
                return Value.ofError(Value.NUMBER_ERROR);
            }
            double scale = tenTo(places < 0 ? -places : places);
            double scaled = places < 0 ? sizeOf(x) / scale : sizeOf(x) * scale;
            if (!Value.isFinite(scaled)) {
                return Value.ofError(Value.NUMBER_ERROR);
            }
            double whole = wholePart(scaled + added);
            double size = places < 0 ? whole * scale : whole / scale;
            return Value.ofNumber(x < 0 ? 0 - size : size);
        }
    }

    /** The functions 35 to 55. */
    private static final class Choices {
        private static final int IF = 35;
        private static final int IFERROR = 36;
        private static final int IFNA = 37;
        private static final int CHOOSE = 38;
        private static final int AND = 39;
        private static final int OR = 40;
        private static final int XOR = 41;
        private static final int NOT = 42;
        private static final int NA = 43;
        private static final int TRUE = 44;
        private static final int FALSE = 45;
        private static final int ISBLANK = 46;
        private static final int ISNUMBER = 47;
        private static final int ISTEXT = 48;
        private static final int ISLOGICAL = 49;
        private static final int ISERROR = 50;
        private static final int ISNA = 51;
        private static final int N = 52;
        private static final int T = 53;
        private static final int TYPE = 54;
        private static final int ERRORTYPE = 55;
        static final int LAST = 55;

        private Choices() {
        }

        static Value answer(int function, Arguments arguments) {
            switch (function) {
                case IF:
                    return chosenByTruth(arguments);
                case IFERROR:
                case IFNA:
                    return arguments.raw(isMended(function, arguments.raw(0)) ? 1 : 0);
                case CHOOSE:
                    return chosenByPlace(arguments);
                case AND:
                case OR:
                case XOR:
                    return ofTruths(function, arguments);
                case NOT:
                    return Value.ofTruth(!arguments.truth(0));
                case NA:
                    return Value.ofError(Value.NONE_ERROR);
                case TRUE:
                case FALSE:
                    return Value.ofTruth(function == TRUE);
                case N:
                    return asNumber(arguments.sound(0));
                case T:
                    return Value.ofText(arguments.sound(0).letters);
                case TYPE:
                    return Value.ofNumber(typeOf(arguments.raw(0)));
                case ERRORTYPE:
                    return errorNumber(arguments.single(0));
                default:
                    return Value.ofTruth(isSo(function, arguments.single(0)));
            }
        }

        private static Value chosenByTruth(Arguments arguments) {
            if (arguments.truth(0)) {
                return arguments.raw(1);
            }
            return arguments.howMany() > 2 ? arguments.raw(2) : Value.ofTruth(false);
        }

        private static boolean isMended(int function, Value first) {
            return first.kind == Value.ERROR && (function == IFERROR || first.code == Value.NONE_ERROR);
        }

        private static Value chosenByPlace(Arguments arguments) {
            long place = arguments.whole(0);
            if (place < 1 || place >= arguments.howMany()) {
                return Value.ofError(Value.VALUE_ERROR);
            }
            return arguments.raw((int) place);
        }

        private static Value ofTruths(int function, Arguments arguments) {
            int all = 0;
            int affirmed = 0;
            for (int k = 0; k < arguments.howMany(); k++) {
                Value given = arguments.raw(k);
                if (given.kind == Value.ARRAY) {
                    arguments.blameCells(k);
                    all += truthCells(given, false);
                    affirmed += truthCells(given, true);
                } else {
                    all++;
                    affirmed += arguments.truth(k) ? 1 : 0;
                }
            }
            if (all == 0) {
                return Value.ofError(Value.VALUE_ERROR);
            }
            switch (function) {
                case AND: return Value.ofTruth(affirmed == all);
                case OR: return Value.ofTruth(affirmed > 0);
                default: return Value.ofTruth(affirmed % 2 == 1);
            }
        }

        /** How many cells are truths or numbers, or how many of these are TRUE. */
        private static int truthCells(Value given, boolean affirmedAlone) {
            int found = 0;
            for (int place = 0; place < given.howManyCells(); place++) {
                Value cell = given.cellAt(place);
                boolean counts = cell.kind == Value.NUMBER || cell.kind == Value.TRUTH;
                // Of the two measures the one that a cell does not have is 0.
                boolean affirmed = cell.amount != 0 || cell.code != 0;
                found += counts && (affirmed || !affirmedAlone) ? 1 : 0;
            }
            return found;
        }

        private static Value asNumber(Value found) {
            return Value.ofNumber(found.kind == Value.TRUTH ? found.code : found.amount);
        }

        private static int typeOf(Value found) {
            switch (found.kind) {
                case Value.TEXT: return 2;
                case Value.TRUTH: return 4;
                case Value.ERROR: return 16;
                case Value.ARRAY: return 64;
                default: return 1;
            }
        }

        private static Value errorNumber(Value found) {
            return found.kind == Value.ERROR
                    ? Value.ofNumber(found.code) : Value.ofError(Value.NONE_ERROR);
        }

        private static boolean isSo(int function, Value found) {
            switch (function) {
                case ISBLANK: return found.kind == Value.NOTHING;
                case ISNUMBER: return found.kind == Value.NUMBER;
                case ISTEXT: return found.kind == Value.TEXT;
                case ISLOGICAL: return found.kind == Value.TRUTH;
                case ISERROR: return found.kind == Value.ERROR;
                case ISNA: return found.kind == Value.ERROR && found.code == Value.NONE_ERROR;
                default: return false;
            }
        }
    }

    /** The functions 56 to 73. */
    private static final class Wording {
        private static final int LEN = 56;
        private static final int LEFT = 57;
        private static final int RIGHT = 58;
        private static final int MID = 59;
        private static final int UPPER = 60;
        private static final int LOWER = 61;
        private static final int PROPER = 62;
        private static final int TRIM = 63;
        private static final int CONCATENATE = 64;
        private static final int REPT = 65;
        private static final int SUBSTITUTE = 66;
        private static final int REPLACE = 67;
        private static final int FIND = 68;
        private static final int SEARCH = 69;
        private static final int EXACT = 70;
        private static final int CHAR = 71;
        private static final int CODE = 72;
        private static final int VALUE = 73;
        static final int LAST = 73;

        private Wording() {
        }

        static Value answer(int function, Arguments arguments) {
            switch (function) {
                case LEN:
                    return Value.ofNumber(arguments.lettersOf(0).length());
                case LEFT:
                case RIGHT:
                    return side(function, arguments.lettersOf(0), arguments.wholeOr(1, 1));
                case MID:
                    return middle(arguments.lettersOf(0), arguments.whole(1), arguments.whole(2));
                case UPPER:
                case LOWER:
                case PROPER:
                    return recast(function, arguments.lettersOf(0));
                case TRIM:
                    return trimmed(arguments.lettersOf(0));
                case CONCATENATE:
                    return joined(arguments);
                case REPT:
                    return repeated(arguments.lettersOf(0), arguments.whole(1));
                case SUBSTITUTE:
                    return substituted(arguments);
                case REPLACE:
                    return replaced(arguments);
                case FIND:
                case SEARCH:
                    return found(function, arguments);
                case EXACT:
                    return Value.ofTruth(arguments.lettersOf(0).equals(arguments.lettersOf(1)));
                case CHAR:
                    return character(arguments.whole(0));
                case CODE:
                    return codeOf(arguments.lettersOf(0));
                case VALUE:
                    return numeralOf(arguments.lettersOf(0));
                default:
                    return Value.ofError(Value.VALUE_ERROR);
            }
        }

        /** From a place (0 the first) on so many characters, as far as there are any. */
        private static String part(String letters, long from, long many) {
            int end = letters.length();
            int first = (int) Math.max(0, Math.min(from, end));
            int behind = (int) Math.max(first, Math.min(from + many, end));
            return letters.substring(first, behind);
        }

        private static Value side(int function, String letters, long many) {
            if (many < 0) {
                return Value.ofError(Value.VALUE_ERROR);
            }
            long from = function == LEFT ? 0 : Math.max(0, letters.length() - many);
            return Value.ofText(part(letters, from, many));
        }

        private static Value middle(String letters, long place, long many) {
            if (place < 1 || many < 0) {
                return Value.ofError(Value.VALUE_ERROR);
            }
            return Value.ofText(part(letters, place - 1, many));
        }

        private static Value recast(int function, String letters) {
            StringBuilder made = new StringBuilder();
            boolean great = function != LOWER;
            for (int place = 0; place < letters.length(); place++) {
                char c = letters.charAt(place);
                made.append(great ? Letters.great(c) : Letters.small(c));
                if (function == PROPER) {
                    great = !Letters.isLetter(c);
                }
            }
            return Value.ofText(made.toString());
        }

        private static Value trimmed(String letters) {
            StringBuilder made = new StringBuilder();
            boolean spaceDue = false;
            for (int place = 0; place < letters.length(); place++) {
                char c = letters.charAt(place);
                if (c == ' ') {
                    spaceDue = made.length() > 0;
                } else {
                    if (spaceDue) {
                        made.append(' ');
                    }
                    made.append(c);
                    spaceDue = false;
                }
            }
            return Value.ofText(made.toString());
        }

        // The texts that are made below may become far longer than a text may be: each
        // stops growing as soon as it is too long, and is the error then.
        private static Value joined(Arguments arguments) {
            StringBuilder made = new StringBuilder();
            for (int k = 0; k < arguments.howMany(); k++) {
                String letters = arguments.lettersOf(k);
                if (made.length() <= MOST_LETTERS) {
                    made.append(letters);
                }
            }
            return Value.ofText(made.toString());
        }

        private static Value repeated(String letters, long times) {
            // The times are below 2^53 and the length below 2^8.
            if (times < 0 || letters.length() * times > MOST_LETTERS) {
                return Value.ofError(Value.VALUE_ERROR);
            }
            StringBuilder made = new StringBuilder();
            for (int k = 0; k < times && k < MOST_LETTERS; k++) {
                made.append(letters);
            }
            return Value.ofText(made.toString());
        }

        private static Value substituted(Arguments arguments) {
            String whole = arguments.lettersOf(0);
            String old = arguments.lettersOf(1);
            String fresh = arguments.lettersOf(2);
            boolean all = arguments.howMany() < 4;
            long only = arguments.wholeOr(3, 1);
            if (only < 1) {
                return Value.ofError(Value.VALUE_ERROR);
            }
            StringBuilder made = new StringBuilder();
            int place = 0;
            long found = 0;
            while (place < whole.length() && made.length() <= MOST_LETTERS) {
                if (!old.isEmpty() && Letters.standsAt(old, whole, place)) {
                    found++;
                    made.append(all || found == only ? fresh : old);
                    place += old.length();
                } else {
                    made.append(whole.charAt(place));
                    place++;
                }
            }
            return Value.ofText(made.toString());
        }

        private static Value replaced(Arguments arguments) {
            String letters = arguments.lettersOf(0);
            long place = arguments.whole(1);
            long many = arguments.whole(2);
            String fresh = arguments.lettersOf(3);
            if (place < 1 || many < 0) {
                return Value.ofError(Value.VALUE_ERROR);
            }
            StringBuilder made = new StringBuilder();
            made.append(part(letters, 0, place - 1));
            made.append(fresh);
            made.append(part(letters, place - 1 + many, letters.length()));
            return Value.ofText(made.toString());
        }

        private static Value found(int function, Arguments arguments) {
            String part = arguments.lettersOf(0);
            String whole = arguments.lettersOf(1);
            long from = arguments.wholeOr(2, 1);
            if (from < 1 || from > whole.length() + 1) {
                return Value.ofError(Value.VALUE_ERROR);
            }
            int place;
            if (function == SEARCH) {
                arguments.likeness.prepare(part);
                place = arguments.likeness.firstPlace(whole, (int) from - 1);
            } else {
                place = firstPlace(part, whole, (int) from - 1);
            }
            return place == NONE ? Value.ofError(Value.VALUE_ERROR) : Value.ofNumber(place + 1);
        }

        private static int firstPlace(String part, String whole, int from) {
            for (int place = from; place <= whole.length(); place++) {
                if (Letters.standsAt(part, whole, place)) {
                    return place;
                }
            }
            return NONE;
        }

        private static Value character(long code) {
            if (code < FIRST_LETTER || code > LAST_LETTER) {
                return Value.ofError(Value.VALUE_ERROR);
            }
            StringBuilder made = new StringBuilder();
            made.append((char) code);
            return Value.ofText(made.toString());
        }

        private static Value numeralOf(String letters) {
            return Letters.isNumeral(letters)
                    ? Value.ofNumber(Letters.numeral(letters)) : Value.ofError(Value.VALUE_ERROR);
        }

        private static Value codeOf(String letters) {
            return letters.isEmpty()
                    ? Value.ofError(Value.VALUE_ERROR) : Value.ofNumber(letters.charAt(0));
        }
    }

    /** The functions 74 to 80. */
    private static final class Lookup {
        private static final int ROWS = 74;
        private static final int COLUMNS = 75;
        private static final int INDEX = 76;
        private static final int MATCH = 77;
        private static final int VLOOKUP = 78;
        private static final int HLOOKUP = 79;
        private static final int TRANSPOSE = 80;
        static final int LAST = 80;

        private Lookup() {
        }

        static Value answer(int function, Arguments arguments) {
            switch (function) {
                case ROWS:
                    return Value.ofNumber(arguments.raw(0).rows);
                case COLUMNS:
                    return Value.ofNumber(arguments.raw(0).columns);
                case INDEX:
                    return index(arguments);
                case MATCH:
                    return match(arguments);
                case VLOOKUP:
                    return lookedUp(arguments, arguments.raw(1));
                case HLOOKUP:
                    // What stands in rows there stands in columns here.
                    return lookedUp(arguments, transposed(arguments.raw(1)));
                case TRANSPOSE:
                    return transposed(arguments.raw(0));
                default:
                    return Value.ofError(Value.VALUE_ERROR);
            }
        }

        private static Value transposed(Value table) {
            return section(table, 0, 0, table.rows, table.columns, true);
        }

        /** So many rows and columns from a cell on, as they stand or turned; never empty. */
        private static Value section(Value table, int row, int column,
                int rows, int columns, boolean turned) {
            int high = Math.max(1, rows);
            int wide = Math.max(1, columns);
            Value[] cells = new Value[high * wide];
            for (int place = 0; place < cells.length; place++) {
                int down = turned ? place % high : place / wide;
                int aside = turned ? place / high : place % wide;
                cells[place] = table.cellIn(row + down, column + aside);
            }
            return Value.ofCells(turned ? wide : high, turned ? high : wide, cells);
        }

        private static Value index(Arguments arguments) {
            Value table = arguments.raw(0);
            long row = arguments.whole(1);
            long column = arguments.wholeOr(2, 0);
            if (arguments.howMany() == 2 && table.rows == 1) {
                column = row;
                row = 1;
            } else if (arguments.howMany() == 2 && table.columns == 1) {
                column = 1;
            }
            if (row < 0 || column < 0) {
                return Value.ofError(Value.VALUE_ERROR);
            }
            if (row > table.rows || column > table.columns) {
                return Value.ofError(Value.REFERENCE_ERROR);
            }
            if (row > 0 && column > 0) {
                return table.cellIn((int) row - 1, (int) column - 1);
            }
            return section(table, row > 0 ? (int) row - 1 : 0, column > 0 ? (int) column - 1 : 0,
                    row > 0 ? 1 : table.rows, column > 0 ? 1 : table.columns, false);
        }

        /** What is looked for: nothing is 0. */
        private static Value wanted(Arguments arguments) {
            Value found = arguments.sound(0);
            return found.kind == Value.NOTHING ? Value.ofNumber(0) : found;
        }

        private static Value match(Arguments arguments) {
            Value looked = wanted(arguments);
            Value line = arguments.raw(1);
            long manner = arguments.wholeOr(2, 1);
            if (!line.isLine()) {
                return Value.ofError(Value.NONE_ERROR);
            }
            int place = placeOf(looked, line, manner, arguments.likeness);
            return place == NONE ? Value.ofError(Value.NONE_ERROR) : Value.ofNumber(place + 1);
        }

        /** In the first column; the error NONE is told last. */
        private static Value lookedUp(Arguments arguments, Value table) {
            Value looked = wanted(arguments);
            long column = arguments.whole(2);
            long manner = arguments.truthOr(3, true) ? 1 : 0;
            if (column < 1) {
                return Value.ofError(Value.VALUE_ERROR);
            }
            if (column > table.columns) {
                return Value.ofError(Value.REFERENCE_ERROR);
            }
            Value line = section(table, 0, 0, table.rows, 1, false);
            int place = placeOf(looked, line, manner, arguments.likeness);
            return place == NONE
                    ? Value.ofError(Value.NONE_ERROR) : table.cellIn(place, (int) column - 1);
        }

        private static int placeOf(Value looked, Value line, long manner, Likeness likeness) {
            if (manner == 0) {
                return firstSame(looked, line, likeness);
            }
            return lastBefore(looked, line, manner > 0 ? 1 : -1);
        }

        private static int firstSame(Value looked, Value line, Likeness likeness) {
            likeness.prepare(looked.letters);
            for (int place = 0; place < line.howManyCells(); place++) {
                Value cell = line.cellAt(place);
                if (cell.kind == looked.kind) {
                    boolean same = cell.kind == Value.TEXT
                            ? likeness.isMetBy(cell.letters) : Operators.order(cell, looked) == 0;
                    if (same) {
                        return place;
                    }
                }
            }
            return NONE;
        }

        /** The direction is 1 where the cells are thought to rise, and -1 where to fall. */
        private static int lastBefore(Value looked, Value line, int direction) {
            int last = NONE;
            for (int place = 0; place < line.howManyCells(); place++) {
                Value cell = line.cellAt(place);
                if (cell.kind == looked.kind) {
                    if (Operators.order(cell, looked) * direction > 0) {
                        return last;
                    }
                    last = place;
                }
            }
            return last;
        }
    }

    /** The functions 81 to 91. */
    private static final class Days {
        private static final int DATE = 81;
        private static final int YEAR = 82;
        private static final int MONTH = 83;
        private static final int DAY = 84;
        private static final int WEEKDAY = 85;
        private static final int EDATE = 86;
        private static final int EOMONTH = 87;
        private static final int TIME = 88;
        private static final int HOUR = 89;
        private static final int MINUTE = 90;
        private static final int SECOND = 91;

        private static final int FIRST_YEAR = 1900;
        private static final int MONTHS = 12;
        private static final int DAY_SECONDS = 86400;
        /** The last of December 9999. */
        private static final int LAST_DAY = 2958465;
        /** Months count from January 1900, which is 0. */
        private static final int FEBRUARY = 1;
        /** How many leap years there are up to 1900, which is none. */
        private static final int LEAPS_BEFORE = 460;
        private static final int[] DAYS_BEFORE = {
            0, 31, 59, 90, 120, 151, 181, 212, 243, 273, 304, 334};

        private Days() {
        }

        static Value answer(int function, Arguments arguments) {
            switch (function) {
                case DATE:
                    return date(arguments.whole(0), arguments.whole(1), arguments.whole(2));
                case YEAR:
                case MONTH:
                case DAY:
                    return partOfDate(function, arguments.amount(0));
                case WEEKDAY:
                    return weekday(arguments.amount(0), arguments.wholeOr(1, 1));
                case EDATE:
                case EOMONTH:
                    return monthsOn(function, arguments.amount(0), arguments.whole(1));
                case TIME:
                    return time(arguments.whole(0), arguments.whole(1), arguments.whole(2));
                case HOUR:
                case MINUTE:
                case SECOND:
                    return partOfDay(function, arguments.amount(0));
                default:
                    return Value.ofError(Value.VALUE_ERROR);
            }
        }

        private static boolean isShort(long x) {
            return x >= -32768 && x <= 32767;
        }

        private static Value ofDay(long day) {
            return day >= 0 && day <= LAST_DAY
                    ? Value.ofNumber(day) : Value.ofError(Value.NUMBER_ERROR);
        }

        /** The day INT(x), or NONE where there is none. */
        private static int dayOf(double x) {
            return x >= 0 && x < LAST_DAY + 1 ? (int) x : NONE;
        }

        private static boolean isLeap(int year) {
            return year % 4 == 0 && (year % 100 != 0 || year % 400 == 0);
        }

        /** The day of a month's first; its 29th of February 1900 is one more for all behind it. */
        private static int firstOf(int month) {
            int year = FIRST_YEAR + month / MONTHS;
            int place = Math.floorMod(month, MONTHS);
            int before = year - 1;
            int leaps = before / 4 - before / 100 + before / 400 - LEAPS_BEFORE;
            int first = 1 + 365 * (year - FIRST_YEAR) + leaps + DAYS_BEFORE[place];
            if (place > FEBRUARY && isLeap(year)) {
                first++;
            }
            return month > FEBRUARY ? first + 1 : first;
        }

        /** The month that a day is of; day 0 is of the first one. */
        private static int monthOf(int day) {
            int month = 0;
            for (int step = 65536; step > 0; step /= 2) {
                if (firstOf(month + step) <= day) {
                    month += step;
                }
            }
            return month;
        }

        private static Value date(long year, long month, long day) {
            if (!isShort(year) || !isShort(month) || !isShort(day)) {
                return Value.ofError(Value.NUMBER_ERROR);
            }
            long fullYear = year < FIRST_YEAR ? year + FIRST_YEAR : year;
            long months = (fullYear - FIRST_YEAR) * MONTHS + month - 1;
            return months < 0
                    ? Value.ofError(Value.NUMBER_ERROR) : ofDay(firstOf((int) months) + day - 1);
        }

        private static Value partOfDate(int function, double x) {
            int day = dayOf(x);
            if (day == NONE) {
                return Value.ofError(Value.NUMBER_ERROR);
            }
            int month = monthOf(day);
            switch (function) {
                case YEAR: return Value.ofNumber(FIRST_YEAR + month / MONTHS);
                case MONTH: return Value.ofNumber(month % MONTHS + 1);
                default: return Value.ofNumber(day - firstOf(month) + 1);
            }
        }

        private static Value weekday(double x, long manner) {
            int day = dayOf(x);
            if (day == NONE || manner < 1 || manner > 3) {
                return Value.ofError(Value.NUMBER_ERROR);
            }
            if (manner == 1) {
                return Value.ofNumber(Math.floorMod(day - 1, 7) + 1);
            }
            return Value.ofNumber(Math.floorMod(day - 2, 7) + (manner == 2 ? 1 : 0));
        }

        private static Value monthsOn(int function, double x, long months) {
            int day = dayOf(x);
            if (day == NONE || !isShort(months)) {
                return Value.ofError(Value.NUMBER_ERROR);
            }
            int from = monthOf(day);
            int month = from + (int) months;
            if (month < 0) {
                return Value.ofError(Value.NUMBER_ERROR);
            }
            int first = firstOf(month);
            int last = firstOf(month + 1) - 1;
            return ofDay(function == EOMONTH ? last : Math.min(first + day - firstOf(from), last));
        }

        private static Value time(long hours, long minutes, long seconds) {
            if (hours < 0 || hours > 32767 || minutes < 0 || minutes > 32767
                    || seconds < 0 || seconds > 32767) {
                return Value.ofError(Value.NUMBER_ERROR);
            }
            long all = 3600 * hours + 60 * minutes + seconds;
            return Value.ofNumber((double) (all % DAY_SECONDS) / DAY_SECONDS);
        }

        private static Value partOfDay(int function, double x) {
            if (x < 0) {
                return Value.ofError(Value.NUMBER_ERROR);
            }
            int all = (int) ((x - Arithmetic.floor(x)) * DAY_SECONDS + 0.5);
            int seconds = all == DAY_SECONDS ? 0 : all;
            switch (function) {
                case HOUR: return Value.ofNumber(seconds / 3600);
                case MINUTE: return Value.ofNumber(seconds / 60 % 60);
                default: return Value.ofNumber(seconds % 60);
            }
        }
    }
}

/** The calls that README.md shows, with the answers and the refusals that it tells. */
public final class ReadmeTest extends Bench {
    private static final int MOST_VALUES = 16;
    private static final int MOST_LETTERS = 255;

    private ReadmeTest() {
    }

    public static void main(String[] args) {
        shown();
        errorsByNumber();
        limits();
        refusals();
        end("ReadmeTest");
    }

    /** To be the same as the README's, line by line. */
    private static void shown() {
        ValueAlgebra x = new ValueAlgebra();
        x.number(2);
        x.number(3);
        x.operate(5);
        double sum = x.value(0, 0, 0);
        check("the sum", sum, 5.0);

        x.type('a' << 8 | 'b');
        x.text();
        x.number(3);
        x.call(65, 2);
        int length = x.cell(0, 0, 0, 1);
        int first = x.letter(0, 0, 0, 0);
        check("the length", length, 6);
        check("the first character", first, (int) 'a');

        x.number(1);
        x.number(2);
        x.number(3);
        x.number(4);
        x.array(2, 2);
        x.again(0);
        x.call(80, 1);
        double turned = x.value(0, 0, 1);
        int columns = x.about(1, 2);
        x.call(15, 2);
        double products = x.value(0, 0, 0);
        check("the cell of the turned array", turned, 3.0);
        check("the columns", columns, 2);
        check("the sum of products", products, 29.0);

        x.number(0);
        x.operate(4);
        int kind = x.cell(0, 0, 0, 0);
        int error = x.cell(0, 0, 0, 1);
        check("the kind", kind, 4);
        check("the error", error, 2);
    }

    private static void errorsByNumber() {
        for (Err error : Err.values()) {
            Counted x = new Counted();
            x.plain(4, error.ordinal() + 1);
            check("the error " + (error.ordinal() + 1), read(x, 0), error);
        }
    }

    private static void limits() {
        Counted full = new Counted();
        for (int k = 0; k < MOST_VALUES; k++) {
            full.number(k);
        }
        check("a value beyond the stack", thrownBy(full, x -> x.number(0)), Thrown.STATE);
        check("values on a full stack", full.size(), MOST_VALUES);
        Counted typed = new Counted();
        typeAll(typed, times("a", MOST_LETTERS));
        check("a character beyond the text", thrownBy(typed, x -> x.type('a')), Thrown.STATE);
        check("characters of a full text", typed.type(0), MOST_LETTERS);
    }

    private static void refusals() {
        check("a drop of none", thrownBy(new Counted(), x -> x.drop()), Thrown.STATE);
        check("a value that is not there", thrownBy(new Counted(), x -> x.about(0, 0)), Thrown.BOUNDS);
        check("a cell that is not there", thrownBy(with(1), x -> x.value(0, 0, 1)), Thrown.BOUNDS);
        check("an operator that is not there", thrownBy(with(1, 2), x -> x.operate(14)), Thrown.ARGUMENT);
        check("too few values", thrownBy(with(1), x -> x.operate(5)), Thrown.ARGUMENT);
        check("an array as a cell", thrownBy(with(row(1, 2)), x -> x.array(1, 1)), Thrown.ARGUMENT);
    }
}

/**
 * The class under test, with its calls counted: what it answers behind the 512th is free,
 * so a test that looked there would ask for more than the document does.
 */
final class Counted {
    static final int MOST_CALLS = 512;

    private final ValueAlgebra inner = new ValueAlgebra();
    private int calls = 0;

    private ValueAlgebra counted() {
        calls++;
        if (calls > MOST_CALLS) {
            throw new AssertionError("a test makes more than " + MOST_CALLS + " calls on one object");
        }
        return inner;
    }

    int calls() {
        return calls;
    }

    void number(double v) {
        counted().number(v);
    }

    int type(int word) {
        return counted().type(word);
    }

    void text() {
        counted().text();
    }

    void plain(int kind, int v) {
        counted().plain(kind, v);
    }

    void array(int rows, int columns) {
        counted().array(rows, columns);
    }

    void operate(int operator) {
        counted().operate(operator);
    }

    void call(int function, int n) {
        counted().call(function, n);
    }

    void drop() {
        counted().drop();
    }

    void again(int depth) {
        counted().again(depth);
    }

    int size() {
        return counted().size();
    }

    int about(int depth, int what) {
        return counted().about(depth, what);
    }

    int cell(int depth, int row, int column, int what) {
        return counted().cell(depth, row, column, what);
    }

    double value(int depth, int row, int column) {
        return counted().value(depth, row, column);
    }

    int letter(int depth, int row, int column, int k) {
        return counted().letter(depth, row, column, k);
    }
}

/** A LeafFormula that counts its calls: nothing is promised behind the 512th, so no test may ask there. */
final class Subject {
    private static final int MOST_CALLS = 512;

    private final LeafFormula object = new LeafFormula();
    private int calls;

    int callsLeft() {
        return MOST_CALLS - calls;
    }

    private LeafFormula asked() {
        calls++;
        if (calls > MOST_CALLS) {
            throw new IllegalStateException("a test asks for what is not promised: call " + calls);
        }
        return object;
    }

    int feed(int a, int b, int c, int d, int e) {
        return asked().feed(a, b, c, d, e);
    }

    int end(int n) {
        return asked().end(n);
    }

    int book() {
        return asked().book();
    }

    int change(int book) {
        return asked().change(book);
    }

    int copy(int book) {
        return asked().copy(book);
    }

    int find(int book) {
        return asked().find(book);
    }

    int place() {
        return asked().place();
    }

    int fault() {
        return asked().fault();
    }

    int count(int what) {
        return asked().count(what);
    }

    int gatherings(int book) {
        return asked().gatherings(book);
    }

    int gathering(int book, int g, int what) {
        return asked().gathering(book, g, what);
    }

    int leaves(int book) {
        return asked().leaves(book);
    }

    int leaf(int book, int place, int what) {
        return asked().leaf(book, place, what);
    }

    int letter(int book, int k) {
        return asked().letter(book, k);
    }

    int name(int book, int place, int k) {
        return asked().name(book, place, k);
    }

    int same(int one, int other) {
        return asked().same(one, other);
    }

    int sheets(int book, int format) {
        return asked().sheets(book, format);
    }

    int sheet(int book, int place, int format, int what) {
        return asked().sheet(book, place, format, what);
    }

    int forme(int book, int place, int side, int format) {
        return asked().forme(book, place, side, format);
    }

    int state(int copy, int what) {
        return asked().state(copy, what);
    }

    int entry(int copy, int i) {
        return asked().entry(copy, i);
    }

    int told(int copy, int what, int k) {
        return asked().told(copy, what, k);
    }

    int note(int copy, int k) {
        return asked().note(copy, k);
    }

    int apart(int one, int other) {
        return asked().apart(one, other);
    }

    int together(int one, int other) {
        return asked().together(one, other);
    }

    int status() {
        return asked().status();
    }
}

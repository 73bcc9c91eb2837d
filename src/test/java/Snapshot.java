/** All that an object answers about what it keeps, as a text, so that two objects can be compared. */
final class Snapshot {
    private Snapshot() {
    }

    /** BOOKS and COPIES. */
    static String kept(Subject x) {
        StringBuilder text = new StringBuilder();
        int books = x.count(0);
        int copies = x.count(1);
        text.append(books).append(" BOOKS, ").append(copies).append(" COPIES");
        for (int book = 0; book < books; book++) {
            addBook(text, x, book);
        }
        for (int copy = 0; copy < copies; copy++) {
            addCopy(text, x, copy);
        }
        return text.toString();
    }

    /** What kept() tells, then place and fault, and what the TAPE has, read as a FORMULA: so it is empty behind this. */
    static String whole(Subject x) {
        StringBuilder text = new StringBuilder(kept(x));
        text.append("; place ").append(x.place()).append(", fault ").append(x.fault());
        text.append("; TAPE ").append(x.count(2));
        int book = x.book();
        text.append(" read: ").append(book).append(", place ").append(x.place()).append(", fault ").append(x.fault());
        if (book != LeafFormula.BAD) {
            text.append(" '").append(Checks.written(x, book)).append("'");
        }
        return text.toString();
    }

    private static void addBook(StringBuilder text, Subject x, int book) {
        text.append("; BOOK '").append(Checks.written(x, book)).append("':");
        int gatherings = x.gatherings(book);
        for (int g = 0; g < gatherings; g++) {
            for (int what = 0; what < 4; what++) {
                text.append(' ').append(x.gathering(book, g, what));
            }
        }
        int leaves = x.leaves(book);
        for (int place = 0; place < leaves; place++) {
            text.append(" /");
            for (int what = 0; what < 5; what++) {
                text.append(' ').append(x.leaf(book, place, what));
            }
        }
    }

    private static void addCopy(StringBuilder text, Subject x, int copy) {
        text.append("; COPY of ").append(x.state(copy, 0)).append(": ").append(Checks.entries(x, copy));
        for (int what = 2; what < 6; what++) {
            text.append(" / ").append(Checks.told(x, copy, what));
        }
        text.append(" '").append(Checks.note(x, copy)).append("'");
    }
}

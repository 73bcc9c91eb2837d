import java.util.function.Supplier;
import java.util.function.ToIntFunction;

/** Terms 5 and each promise's refusals: who is taken, who is not, which of several is told, and that nothing changes. */
public final class EdgeRefusalsTest {
    private static final int BAD = LeafFormula.BAD;
    private static final int MIN = Integer.MIN_VALUE;
    private static final int MAX = Integer.MAX_VALUE;
    private static final int[] NO_BOOKS = {-1, 2, 3, 7, 8, BAD, MIN, MAX};
    private static final int[] NO_COPIES = {-1, 3, 4, 15, 16, BAD, MIN, MAX};
    private static final int[] NO_FORMATS = {-8, -4, -2, -1, 0, 1, 3, 5, 6, 7, 9, 10, 16, 32, MIN, MAX};

    private static final String FIRST_BOOK = "a4(-a2,a2+1,=a3) chi1";
    private static final String FIRST_NOTE = "lacks a2+1-a3; twice a1; moved a4, a1";

    private interface Call {
        int on(Subject x, int number);
    }

    private record Asked(String what, ToIntFunction<Subject> call) { }

    private record Refused(String what, int number, ToIntFunction<Subject> call) { }

    private record Read(String what, int place, int fault, ToIntFunction<Subject> call) { }

    public static void main(String[] args) {
        Checks c = new Checks("EdgeRefusalsTest");
        empties(c);
        tapes(c);
        Supplier<Subject> behindWrong = () -> few("a4(-a1) j");
        Supplier<Subject> behindFault = () -> few("a4(a1+1,a1+1)");
        for (Twins twins : new Twins[] {new Twins(c, behindWrong), new Twins(c, behindFault)}) {
            books(twins);
            leaves(twins);
            formats(twins);
            copies(twins);
            texts(twins);
        }
        full(new Twins(c, EdgeRefusalsTest::full));
        ranges(c);
        orders(c);
        statusOfEach(c);
        latestText(c);
        apartObjects(c);
        lastCall(c);
        c.finish();
    }

    /** Two BOOKS, of five LEAVES and of two; two COPIES of the first and one of the second; a text behind, one on the TAPE. */
    private static Subject few(String latest) {
        Subject x = new Subject();
        Checks.book(x, FIRST_BOOK);
        Checks.book(x, "b2");
        Checks.copy(x, 0, "a1 chi1 a4 a1");
        Checks.copy(x, 1, "b1");
        Checks.copy(x, 0, "a4");
        Checks.book(x, latest);
        return Checks.tape(x, " k2(=k1) l2");
    }

    /** All BOOKS and all COPIES that there can be, of one LEAF each. */
    private static Subject full() {
        Subject x = new Subject();
        for (int book = 0; book < 8; book++) {
            Checks.book(x, "a1");
        }
        for (int copy = 0; copy < 16; copy++) {
            Checks.copy(x, copy / 8, "a1");
        }
        return x;
    }

    private static Subject empty() {
        return Checks.tape(new Subject(), " k2(=k1) l2");
    }

    /** A new object has nothing: each number of a BOOK or a COPY is refused, 0, too. */
    private static void empties(Checks c) {
        Twins twins = new Twins(c, EdgeRefusalsTest::empty);
        for (int n : new int[] {-1, 0, 1, 8, 16, MIN, MAX}) {
            twins.refused("promise 1: gatherings(" + n + ")", x -> x.gatherings(n), 1);
            twins.refused("promise 1: gathering(" + n + ", 0, 0)", x -> x.gathering(n, 0, 0), 1);
            twins.refused("promise 1: leaves(" + n + ")", x -> x.leaves(n), 1);
            twins.refused("promise 1: leaf(" + n + ", 0, 0)", x -> x.leaf(n, 0, 0), 1);
            twins.refused("promise 1: letter(" + n + ", 0)", x -> x.letter(n, 0), 1);
            twins.refused("promise 1: name(" + n + ", 0, 0)", x -> x.name(n, 0, 0), 1);
            twins.refused("promise 1: same(" + n + ", " + n + ")", x -> x.same(n, n), 1);
            twins.refused("promise 1: sheets(" + n + ", 2)", x -> x.sheets(n, 2), 1);
            twins.refused("promise 1: sheet(" + n + ", 0, 2, 0)", x -> x.sheet(n, 0, 2, 0), 1);
            twins.refused("promise 1: forme(" + n + ", 0, 0, 2)", x -> x.forme(n, 0, 0, 2), 1);
            twins.refused("promise 1: state(" + n + ", 0)", x -> x.state(n, 0), 1);
            twins.refused("promise 1: entry(" + n + ", 0)", x -> x.entry(n, 0), 1);
            twins.refused("promise 1: told(" + n + ", 2, 0)", x -> x.told(n, 2, 0), 1);
            twins.refused("promise 1: note(" + n + ", 0)", x -> x.note(n, 0), 1);
            twins.refused("promise 1: apart(" + n + ", " + n + ")", x -> x.apart(n, n), 1);
            twins.refused("promise 1: together(" + n + ", " + n + ")", x -> x.together(n, n), 1);
            twins.refusedUnread("-a1", "promise 1: change(" + n + ")", x -> x.change(n));
            twins.refusedUnread("a1", "promise 1: copy(" + n + ")", x -> x.copy(n));
            twins.refusedUnread("a1", "promise 1: find(" + n + ")", x -> x.find(n));
        }
        twins.refusedText("", "promise 4: book()", x -> x.book(), 2, 0, 0);
    }

    /** Promises 2, 3 and 10: feed, end and count, on an empty, a half and a full TAPE. */
    private static void tapes(Checks c) {
        for (int length : new int[] {0, 1, 20, 60, 99, 100, 101, 119, 120}) {
            String text = "b2(=b1)".repeat(18).substring(0, length);
            Supplier<Subject> setup = () -> Checks.tape(few("a4(-a1) j"), text);
            Twins twins = new Twins(c, setup);
            for (int n : new int[] {-1, MIN, length + 1, 121, 256, MAX}) {
                twins.refused("promise 3: end(" + n + ") of " + length, x -> x.end(n), 3);
            }
            for (int what : new int[] {-1, 3, MIN, MAX}) {
                twins.refused("promise 10: count(" + what + ") with a TAPE of " + length, x -> x.count(what), 3);
            }
            for (int n : new int[] {0, length / 2, length}) {
                Subject x = setup.get();
                c.taken("promise 3: end(" + n + ") of " + length, x, x.end(n), n);
                c.taken("promise 10: of " + length + " behind it", x, x.count(2), n);
            }
            if (length > 100) {
                twins.refused("promise 2: feed on " + length, x -> x.feed(1, 2, 3, 4, 5), 9);
            } else {
                Subject x = setup.get();
                c.taken("promise 2: feed on " + length, x, x.feed(1, 2, 3, 4, 5), length + 20);
                c.taken("promise 10: of " + length + " behind it", x, x.count(2), length + 20);
            }
        }
    }

    private static void books(Twins twins) {
        for (int book : NO_BOOKS) {
            twins.refused("promise 11: gatherings(" + book + ")", x -> x.gatherings(book), 1);
            twins.refused("promise 12: gathering(" + book + ", 0, 0)", x -> x.gathering(book, 0, 0), 1);
            twins.refused("promise 13: leaves(" + book + ")", x -> x.leaves(book), 1);
            twins.refused("promise 15: letter(" + book + ", 0)", x -> x.letter(book, 0), 1);
            twins.refused("promise 17: same(" + book + ", 0)", x -> x.same(book, 0), 1);
            twins.refused("promise 17: same(0, " + book + ")", x -> x.same(0, book), 1);
            twins.refused("promise 17: same of twice " + book, x -> x.same(book, book), 1);
            twins.refused("promise 18: sheets(" + book + ", 2)", x -> x.sheets(book, 2), 1);
        }
        for (int g : new int[] {-1, 2, 3, 70, 71, MIN, MAX}) {
            twins.refused("promise 12: gathering(0, " + g + ", 0)", x -> x.gathering(0, g, 0), 1);
            twins.refused("promise 12: gathering(1, " + g + ", 0)", x -> x.gathering(1, g == 2 ? 1 : g, 0), 1);
        }
        for (int what : new int[] {-1, 4, 5, MIN, MAX}) {
            twins.refused("promise 12: gathering(0, 0, " + what + ")", x -> x.gathering(0, 0, what), 3);
        }
        for (int k : new int[] {-1, FIRST_BOOK.length(), FIRST_BOOK.length() + 1, 400, MIN, MAX}) {
            twins.refused("promise 15: letter(0, " + k + ")", x -> x.letter(0, k), 1);
        }
        twins.refused("promise 15: letter(1, 2)", x -> x.letter(1, 2), 1);
    }

    private static void leaves(Twins twins) {
        int[] places = {-1, 5, 6, 399, 400, MIN, MAX};
        for (int place : places) {
            twins.refused("promise 14: leaf(0, " + place + ", 0)", x -> x.leaf(0, place, 0), 1);
            twins.refused("promise 16: name(0, " + place + ", 0)", x -> x.name(0, place, 0), 1);
            twins.refused("promise 19: sheet(0, " + place + ", 2, 0)", x -> x.sheet(0, place, 2, 0), 1);
            twins.refused("promise 20: forme(0, " + place + ", 0, 2)", x -> x.forme(0, place, 0, 2), 1);
        }
        // the PLACES of another BOOK are not this one's
        twins.refused("promise 14: leaf(1, 2, 0)", x -> x.leaf(1, 2, 0), 1);
        twins.refused("promise 16: name(1, 2, 0)", x -> x.name(1, 2, 0), 1);
        twins.refused("promise 19: sheet(1, 2, 2, 0)", x -> x.sheet(1, 2, 2, 0), 1);
        twins.refused("promise 20: forme(1, 2, 0, 2)", x -> x.forme(1, 2, 0, 2), 1);
        for (int book : NO_BOOKS) {
            twins.refused("promise 14: leaf(" + book + ", 0, 0)", x -> x.leaf(book, 0, 0), 1);
            twins.refused("promise 16: name(" + book + ", 0, 0)", x -> x.name(book, 0, 0), 1);
            twins.refused("promise 19: sheet(" + book + ", 0, 2, 0)", x -> x.sheet(book, 0, 2, 0), 1);
            twins.refused("promise 20: forme(" + book + ", 0, 0, 2)", x -> x.forme(book, 0, 0, 2), 1);
        }
        for (int what : new int[] {-1, 5, 6, MIN, MAX}) {
            twins.refused("promise 14: leaf(0, 0, " + what + ")", x -> x.leaf(0, 0, what), 3);
        }
        for (int k : new int[] {-1, 2, 3, MIN, MAX}) {
            twins.refused("promise 16: name(0, 0, " + k + ")", x -> x.name(0, 0, k), 1);
        }
        twins.refused("promise 16: behind a2+1", x -> x.name(0, 1, 4), 1);
    }

    private static void formats(Twins twins) {
        for (int format : NO_FORMATS) {
            twins.refused("promise 18: sheets(0, " + format + ")", x -> x.sheets(0, format), 3);
            // the LEAF at PLACE 1 lies on no SHEET: the FORMAT is refused all the same
            for (int place : new int[] {0, 1}) {
                twins.refused("promise 19: sheet by " + format, x -> x.sheet(0, place, format, 0), 3);
                twins.refused("promise 20: forme by " + format, x -> x.forme(0, place, 0, format), 3);
            }
        }
        for (int odd : new int[] {-1, 2, 3, MIN, MAX}) {
            for (int place : new int[] {0, 1}) {
                twins.refused("promise 19: sheet(.., " + odd + ")", x -> x.sheet(0, place, 2, odd), 3);
                twins.refused("promise 20: forme of side " + odd, x -> x.forme(0, place, odd, 2), 3);
            }
        }
    }

    private static void copies(Twins twins) {
        for (int copy : NO_COPIES) {
            twins.refused("promise 21: state(" + copy + ", 0)", x -> x.state(copy, 0), 1);
            twins.refused("promise 22: entry(" + copy + ", 0)", x -> x.entry(copy, 0), 1);
            twins.refused("promise 23: told(" + copy + ", 2, 0)", x -> x.told(copy, 2, 0), 1);
            twins.refused("promise 24: note(" + copy + ", 0)", x -> x.note(copy, 0), 1);
            twins.refused("promise 25: apart(" + copy + ", 0)", x -> x.apart(copy, 0), 1);
            twins.refused("promise 25: apart(0, " + copy + ")", x -> x.apart(0, copy), 1);
            twins.refused("promise 25: apart of twice " + copy, x -> x.apart(copy, copy), 1);
            twins.refused("promise 26: together(" + copy + ", 0)", x -> x.together(copy, 0), 1);
            twins.refused("promise 26: together(0, " + copy + ")", x -> x.together(0, copy), 1);
            twins.refused("promise 26: together of twice " + copy, x -> x.together(copy, copy), 1);
        }
        for (int what : new int[] {-1, 6, 7, MIN, MAX}) {
            twins.refused("promise 21: state(0, " + what + ")", x -> x.state(0, what), 3);
            twins.refused("promise 23: told(0, " + what + ", 0)", x -> x.told(0, what, 0), 3);
        }
        twins.refused("promise 23: told(0, 0, 0)", x -> x.told(0, 0, 0), 3);
        twins.refused("promise 23: told(0, 1, 0)", x -> x.told(0, 1, 0), 3);
        int[] ends = {0, 0, 2, 1, 2, 0};
        for (int what = 2; what < 6; what++) {
            for (int k : new int[] {-1, ends[what], ends[what] + 1, 400, MIN, MAX}) {
                int row = what;
                twins.refused("promise 23: told(0, " + row + ", " + k + ")", x -> x.told(0, row, k), 1);
            }
        }
        for (int i : new int[] {-1, 4, 5, 399, 400, MIN, MAX}) {
            twins.refused("promise 22: entry(0, " + i + ")", x -> x.entry(0, i), 1);
        }
        for (int k : new int[] {-1, FIRST_NOTE.length(), FIRST_NOTE.length() + 1, 4000, MIN, MAX}) {
            twins.refused("promise 24: note(0, " + k + ")", x -> x.note(0, k), 1);
        }
        twins.refused("promise 25: not of one BOOK", x -> x.apart(0, 1), 4);
        twins.refused("promise 25: not of one BOOK", x -> x.apart(1, 2), 4);
        twins.refused("promise 26: not of one BOOK", x -> x.together(0, 1), 4);
        twins.refused("promise 26: not of one BOOK", x -> x.together(1, 2), 4);
    }

    private static void texts(Twins twins) {
        for (int book : NO_BOOKS) {
            for (String text : new String[] {"", "-a4", "a1", "a", "a9-a1", "?"}) {
                twins.refusedUnread(text, "promise 5: change(" + book + ")", x -> x.change(book));
                twins.refusedUnread(text, "promise 6: copy(" + book + ")", x -> x.copy(book));
                twins.refusedUnread(text, "promise 7: find(" + book + ")", x -> x.find(book));
            }
        }
        twins.refusedText("c8 d", "promise 4: book()", x -> x.book(), 2, 4, 0);
        twins.refusedText("c8 b8", "promise 4: book()", x -> x.book(), 4, BAD, 2);
        twins.refusedText("a-kk12 ll6", "promise 4: book()", x -> x.book(), 9, BAD, 0);
        twins.refusedText("-a1,", "promise 5: change(0)", x -> x.change(0), 2, 4, 0);
        twins.refusedText("-a1,-a1", "promise 5: change(0)", x -> x.change(0), 4, BAD, 6);
        twins.refusedText("=a2", "promise 5: change(0)", x -> x.change(0), 4, BAD, 6);
        twins.refusedText("a1+5", "promise 5: change(0)", x -> x.change(0), 4, BAD, 5);
        twins.refusedText("-a1,-b1", "promise 5: change(0)", x -> x.change(0), 4, BAD, 4);
        twins.refusedText("a1-", "promise 6: copy(0)", x -> x.copy(0), 2, 3, 0);
        twins.refusedText("a1 a2", "promise 6: copy(0)", x -> x.copy(0), 4, BAD, 7);
        twins.refusedText("a4-a1", "promise 6: copy(0)", x -> x.copy(0), 4, BAD, 7);
        twins.refusedText("a1 a4", "promise 7: find(0)", x -> x.find(0), 2, 3, 0);
    }

    private static void full(Twins twins) {
        twins.refusedText("a8", "promise 4: the ninth book()", x -> x.book(), 9, BAD, 0);
        twins.refusedText("a8 a", "promise 4: the ninth book()", x -> x.book(), 2, 4, 0);
        twins.refusedText("a7", "promise 4: the ninth book()", x -> x.book(), 4, BAD, 3);
        twins.refusedText("a-kk12 ll6", "promise 4: the ninth book()", x -> x.book(), 9, BAD, 0);
        twins.refusedText("-a1", "promise 5: the ninth by change(7)", x -> x.change(7), 9, BAD, 0);
        twins.refusedText("-a1,", "promise 5: the ninth by change(7)", x -> x.change(7), 2, 4, 0);
        twins.refusedText("-a2", "promise 5: the ninth by change(7)", x -> x.change(7), 4, BAD, 4);
        twins.refusedUnread("-a1", "promise 5: change(8)", x -> x.change(8));
        twins.refusedText("a1", "promise 6: the 17th by copy(0)", x -> x.copy(0), 9, BAD, 0);
        twins.refusedText("a1 a", "promise 6: the 17th by copy(0)", x -> x.copy(0), 2, 4, 0);
        twins.refusedText("a2", "promise 6: the 17th by copy(0)", x -> x.copy(0), 4, BAD, 7);
        twins.refusedUnread("a1", "promise 6: copy(8)", x -> x.copy(8));
        twins.refused("promise 26: the 17th", x -> x.together(0, 1), 9);
        twins.refused("promise 26: the 17th, of one with itself", x -> x.together(15, 15), 9);
        twins.refused("promise 26: 4 ahead of 9", x -> x.together(0, 15), 4);
        twins.refused("promise 26: 1 ahead of 9", x -> x.together(16, 0), 1);
        twins.refused("promise 25: apart(0, 16)", x -> x.apart(0, 16), 1);
        twins.refused("promise 25: apart(0, 15)", x -> x.apart(0, 15), 4);
    }

    /** The first and the last number that is taken, and those beyond. */
    private static void ranges(Checks c) {
        Subject few = few("a8");
        c.due("promise 15: the BOOK of these tests", Checks.written(few, 0), FIRST_BOOK);
        c.due("promise 24: the NOTE of these tests", Checks.note(few, 0), FIRST_NOTE);
        range(c, "promise 10: count", (x, n) -> x.count(n), 0, 2, 3);
        range(c, "promise 11: gatherings", (x, n) -> x.gatherings(n), 0, 1, 1);
        range(c, "promise 12: gathering(n, 0, 0)", (x, n) -> x.gathering(n, 0, 0), 0, 1, 1);
        range(c, "promise 12: gathering(0, n, 0)", (x, n) -> x.gathering(0, n, 0), 0, 1, 1);
        range(c, "promise 12: gathering(0, 0, n)", (x, n) -> x.gathering(0, 0, n), 0, 3, 3);
        range(c, "promise 13: leaves", (x, n) -> x.leaves(n), 0, 1, 1);
        range(c, "promise 14: leaf(n, 0, 0)", (x, n) -> x.leaf(n, 0, 0), 0, 1, 1);
        range(c, "promise 14: leaf(0, n, 0)", (x, n) -> x.leaf(0, n, 0), 0, 4, 1);
        range(c, "promise 14: leaf(1, n, 0)", (x, n) -> x.leaf(1, n, 0), 0, 1, 1);
        range(c, "promise 14: leaf(0, 0, n)", (x, n) -> x.leaf(0, 0, n), 0, 4, 3);
        range(c, "promise 15: letter(n, 0)", (x, n) -> x.letter(n, 0), 0, 1, 1);
        range(c, "promise 15: letter(0, n)", (x, n) -> x.letter(0, n), 0, FIRST_BOOK.length() - 1, 1);
        range(c, "promise 15: letter(1, n)", (x, n) -> x.letter(1, n), 0, 1, 1);
        range(c, "promise 16: name(n, 0, 0)", (x, n) -> x.name(n, 0, 0), 0, 1, 1);
        range(c, "promise 16: name(0, n, 0)", (x, n) -> x.name(0, n, 0), 0, 4, 1);
        range(c, "promise 16: name(0, 1, n)", (x, n) -> x.name(0, 1, n), 0, 3, 1);
        range(c, "promise 16: name(0, 4, n)", (x, n) -> x.name(0, 4, n), 0, 3, 1);
        range(c, "promise 17: same(n, 0)", (x, n) -> x.same(n, 0), 0, 1, 1);
        range(c, "promise 17: same(0, n)", (x, n) -> x.same(0, n), 0, 1, 1);
        range(c, "promise 18: sheets(n, 2)", (x, n) -> x.sheets(n, 2), 0, 1, 1);
        range(c, "promise 19: sheet(n, 0, 2, 0)", (x, n) -> x.sheet(n, 0, 2, 0), 0, 1, 1);
        range(c, "promise 19: sheet(0, n, 2, 0)", (x, n) -> x.sheet(0, n, 2, 0), 0, 4, 1);
        range(c, "promise 19: sheet(0, 0, 2, n)", (x, n) -> x.sheet(0, 0, 2, n), 0, 1, 3);
        range(c, "promise 20: forme(n, 0, 0, 2)", (x, n) -> x.forme(n, 0, 0, 2), 0, 1, 1);
        range(c, "promise 20: forme(0, n, 0, 2)", (x, n) -> x.forme(0, n, 0, 2), 0, 4, 1);
        range(c, "promise 20: forme(0, 0, n, 2)", (x, n) -> x.forme(0, 0, n, 2), 0, 1, 3);
        range(c, "promise 21: state(n, 0)", (x, n) -> x.state(n, 0), 0, 2, 1);
        range(c, "promise 21: state(0, n)", (x, n) -> x.state(0, n), 0, 5, 3);
        range(c, "promise 22: entry(n, 0)", (x, n) -> x.entry(n, 0), 0, 2, 1);
        range(c, "promise 22: entry(0, n)", (x, n) -> x.entry(0, n), 0, 3, 1);
        range(c, "promise 23: told(n, 2, 0)", (x, n) -> x.told(n, 2, 0), 0, 2, 1);
        range(c, "promise 23: told(0, 2, n)", (x, n) -> x.told(0, 2, n), 0, 1, 1);
        range(c, "promise 23: told(0, 3, n)", (x, n) -> x.told(0, 3, n), 0, 0, 1);
        range(c, "promise 23: told(0, 4, n)", (x, n) -> x.told(0, 4, n), 0, 1, 1);
        range(c, "promise 23: told(2, 5, n)", (x, n) -> x.told(2, 5, n), 0, 0, 1);
        range(c, "promise 24: note(n, 0)", (x, n) -> x.note(n, 0), 0, 2, 1);
        range(c, "promise 24: note(0, n)", (x, n) -> x.note(0, n), 0, FIRST_NOTE.length() - 1, 1);
        range(c, "promise 25: apart(n, n)", (x, n) -> x.apart(n, n), 0, 2, 1);
        range(c, "promise 26: together(n, n)", (x, n) -> x.together(n, n), 0, 2, 1);
        range(c, "promise 3: end", (x, n) -> x.end(n), 0, 11, 3);
        range(c, "promise 5: change", (x, n) -> Checks.change(x, n, n == 1 ? "-b1" : "-a1"), 0, 1, 1);
        range(c, "promise 6: copy", (x, n) -> Checks.copy(x, n, n == 1 ? "b1" : "a1"), 0, 1, 1);
        range(c, "promise 7: find", (x, n) -> Checks.find(x, n, "a1"), 0, 1, 1);
        for (int format : new int[] {2, 4, 8}) {
            Subject x = few("a1");
            c.taken("promise 18: sheets by " + format, x, x.sheets(0, format), format == 2 ? 3 : 2);
            c.taken("promise 19: sheet by " + format, x, x.sheet(0, 3, format, 1), format == 2 ? 2 : 4);
            c.taken("promise 20: forme by " + format, x, x.forme(0, 3, 1, format), 0);
        }
    }

    private static void range(Checks c, String what, Call call, int first, int last, int number) {
        for (int n = first; n <= last; n++) {
            Subject x = few("a4 3");
            int got = call.on(x, n);
            c.due(what + " of " + n + " is taken", x.status(), 0);
            c.due(what + " of " + n + " answers BAD", got == BAD ? 1 : 0, 0);
        }
        for (int n : new int[] {first - 1, last + 1, last + 2, MIN, MAX}) {
            Subject x = few("a4 3");
            c.refused(what + " of " + n, x, call.on(x, n), number);
        }
    }

    /** Of several refusals the first as told with the call. */
    private static void orders(Checks c) {
        Refused[] calls = {
            new Refused("gathering(2, 0, 4)", 1, x -> x.gathering(2, 0, 4)),
            new Refused("gathering(0, 2, 4)", 1, x -> x.gathering(0, 2, 4)),
            new Refused("gathering(0, -1, -1)", 1, x -> x.gathering(0, -1, -1)),
            new Refused("gathering(0, 1, 4)", 3, x -> x.gathering(0, 1, 4)),
            new Refused("leaf(2, 0, 5)", 1, x -> x.leaf(2, 0, 5)),
            new Refused("leaf(0, 5, 5)", 1, x -> x.leaf(0, 5, 5)),
            new Refused("leaf(0, -1, -1)", 1, x -> x.leaf(0, -1, -1)),
            new Refused("leaf(0, 4, 5)", 3, x -> x.leaf(0, 4, 5)),
            new Refused("sheets(2, 3)", 1, x -> x.sheets(2, 3)),
            new Refused("sheet(2, 0, 3, 2)", 1, x -> x.sheet(2, 0, 3, 2)),
            new Refused("sheet(0, 5, 2, 2)", 1, x -> x.sheet(0, 5, 2, 2)),
            new Refused("sheet(0, 5, 3, 0)", 1, x -> x.sheet(0, 5, 3, 0)),
            new Refused("forme(2, 0, 2, 3)", 1, x -> x.forme(2, 0, 2, 3)),
            new Refused("forme(0, 5, 2, 2)", 1, x -> x.forme(0, 5, 2, 2)),
            new Refused("forme(0, 5, 0, 3)", 1, x -> x.forme(0, 5, 0, 3)),
            new Refused("state(3, 6)", 1, x -> x.state(3, 6)),
            new Refused("told(3, 1, 0)", 1, x -> x.told(3, 1, 0)),
            new Refused("told(3, 6, 99)", 1, x -> x.told(3, 6, 99)),
            new Refused("told(0, 1, 99)", 3, x -> x.told(0, 1, 99)),
            new Refused("told(0, 6, -1)", 3, x -> x.told(0, 6, -1)),
            new Refused("told(0, 5, 0)", 1, x -> x.told(0, 5, 0)),
            new Refused("apart(1, 3)", 1, x -> x.apart(1, 3)),
            new Refused("apart(3, 1)", 1, x -> x.apart(3, 1)),
            new Refused("together(1, 3)", 1, x -> x.together(1, 3)),
            new Refused("together(3, 1)", 1, x -> x.together(3, 1)),
        };
        Twins twins = new Twins(c, () -> few("a8 3"));
        for (Refused refused : calls) {
            twins.refused("Terms 5: the first as told, " + refused.what, refused.call, refused.number);
        }
    }

    /** Promise 27: each call that tells a number behind 0 sets STATUS, to 0 when it is taken; the others leave it. */
    private static void statusOfEach(Checks c) {
        Asked[] calls = {
            new Asked("feed", x -> x.feed(0, 0, 0, 0, 0)),
            new Asked("end", x -> x.end(1)),
            new Asked("book", x -> x.book()),
            new Asked("count", x -> x.count(0)),
            new Asked("gatherings", x -> x.gatherings(0)),
            new Asked("gathering", x -> x.gathering(0, 0, 0)),
            new Asked("leaves", x -> x.leaves(0)),
            new Asked("leaf", x -> x.leaf(0, 0, 0)),
            new Asked("leaf without a CONJUGATE", x -> x.leaf(0, 1, 4)),
            new Asked("letter", x -> x.letter(0, 0)),
            new Asked("name", x -> x.name(0, 0, 0)),
            new Asked("same", x -> x.same(0, 1)),
            new Asked("sheets", x -> x.sheets(0, 2)),
            new Asked("sheet", x -> x.sheet(0, 0, 2, 0)),
            new Asked("sheet, on none", x -> x.sheet(0, 1, 2, 0)),
            new Asked("forme", x -> x.forme(0, 0, 0, 2)),
            new Asked("forme, of none", x -> x.forme(0, 1, 0, 2)),
            new Asked("state", x -> x.state(0, 0)),
            new Asked("entry", x -> x.entry(0, 0)),
            new Asked("told", x -> x.told(0, 2, 0)),
            new Asked("note", x -> x.note(0, 0)),
            new Asked("apart", x -> x.apart(0, 2)),
            new Asked("together", x -> x.together(0, 2)),
        };
        for (Asked asked : calls) {
            Subject x = few("a8 3");
            c.refused("promise 27: ahead of " + asked.what, x, x.end(-1), 3);
            int got = asked.call.applyAsInt(x);
            c.due("promise 27: behind " + asked.what, x.status(), 0);
            c.due("promise 27: " + asked.what + " is taken", got == BAD ? 1 : 0, 0);
        }
        String[] texts = {"-a1", "a1", "a1", "a2"};
        for (int kind = 0; kind < texts.length; kind++) {
            Subject x = Checks.tape(few("a8 3"), texts[kind]);
            c.refused("promise 27: ahead of a text", x, x.end(-1), 3);
            int got = kind == 0 ? x.change(0) : kind == 1 ? x.copy(0) : x.find(0);
            c.due("promise 27: behind '" + texts[kind] + "'", x.status(), 0);
            c.due("promise 27: '" + texts[kind] + "' is taken", got, kind == 0 ? 2 : kind == 1 ? 3 : kind == 2 ? 0 : -1);
        }
        Subject x = few("a8 3");
        c.due("promise 27: behind a tape that was put on", x.status(), 0);
        for (int number : new int[] {3, 1, 9, 4, 2}) {
            int got = number == 3 ? x.count(3) : number == 1 ? x.leaves(9) : number == 4 ? x.apart(0, 1)
                : number == 2 ? Checks.book(x, "a") : overfed(x);
            c.due("promise 27: refused by " + number, got, BAD);
            for (int again = 0; again < 2; again++) {
                x.place();
                c.due("promise 27: place() leaves STATUS " + number, x.status(), number);
                x.fault();
                c.due("promise 27: fault() leaves STATUS " + number, x.status(), number);
            }
        }
    }

    private static int overfed(Subject x) {
        Checks.tape(x, " ".repeat(120));
        return x.feed(0, 0, 0, 0, 0);
    }

    /** Promises 8 and 9: of the latest text that was read, of whatever kind; other calls leave them. */
    private static void latestText(Checks c) {
        Read[] texts = {
            new Read("book of 'a8 b'", 4, 0, x -> Checks.book(x, "a8 b")),
            new Read("book of 'a7'", BAD, 3, x -> Checks.book(x, "a7")),
            new Read("book of 'a2'", BAD, 0, x -> Checks.book(x, "a2")),
            new Read("book of 'a-zzz8'", BAD, 0, x -> Checks.book(x, "a-zzz8")),
            new Read("change by '-a'", 2, 0, x -> Checks.change(x, 0, "-a")),
            new Read("change by '-a5'", BAD, 4, x -> Checks.change(x, 0, "-a5")),
            new Read("change by 'a1+5'", BAD, 5, x -> Checks.change(x, 0, "a1+5")),
            new Read("change by '=a2'", BAD, 6, x -> Checks.change(x, 0, "=a2")),
            new Read("change by '=a1'", BAD, 0, x -> Checks.change(x, 0, "=a1")),
            new Read("copy of 'a1 3'", 3, 0, x -> Checks.copy(x, 0, "a1 3")),
            new Read("copy of 'a2'", BAD, 7, x -> Checks.copy(x, 0, "a2")),
            new Read("copy of 'a3'", BAD, 0, x -> Checks.copy(x, 0, "a3")),
            new Read("find 'a1-'", 2, 0, x -> Checks.find(x, 0, "a1-")),
            new Read("find 'a2'", BAD, 0, x -> Checks.find(x, 0, "a2")),
            new Read("find 'a1'", BAD, 0, x -> Checks.find(x, 0, "a1")),
        };
        for (Read first : texts) {
            for (Read second : texts) {
                Subject x = few("a9");
                for (Read text : new Read[] {first, second}) {
                    text.call.applyAsInt(x);
                    String what = text.what + (text == second ? " behind " + first.what : "");
                    c.due("promise 8: " + what, x.place(), text.place);
                    c.due("promise 9: " + what, x.fault(), text.fault);
                }
                unreadCalls(x);
                c.due("promise 8: calls that read no text leave it, " + second.what, x.place(), second.place);
                c.due("promise 9: calls that read no text leave it, " + second.what, x.fault(), second.fault);
            }
        }
    }

    private static void unreadCalls(Subject x) {
        Checks.tape(x, "a8 ?");
        x.count(0);
        x.together(0, 1);
        x.together(0, 2);
        x.change(-1);
        x.feed(0, 0, 0, 0, 0);
        x.copy(99);
        x.end(0);
        x.find(8);
        x.leaves(9);
    }

    /** Promise 1: what one object was told another one does not know. */
    private static void apartObjects(Checks c) {
        Subject one = full();
        Checks.book(one, "a");
        Checks.tape(one, "a8");
        one.leaves(-1);
        Subject other = new Subject();
        c.due("promise 27: of a new object", other.status(), 0);
        c.due("promise 8: of a new object", other.place(), BAD);
        c.due("promise 9: of a new object", other.fault(), 0);
        for (int what = 0; what < 3; what++) {
            c.taken("promise 1: count(" + what + ") of a new object", other, other.count(what), 0);
        }
        c.taken("promise 4: the first BOOK of a new object", other, Checks.book(other, "c4 d2"), 0);
        c.due("promise 15: of a new object", Checks.written(other, 0), "c4 d2");
        c.due("promise 15: of the older one", Checks.written(one, 0), "a1");
        c.due("promise 2: of the older one", one.count(2), 2);
        c.due("promise 8: of the older one", one.place(), 1);
    }

    /** An object is used for 512 calls: the last of them is answered as the first. */
    private static void lastCall(Checks c) {
        Subject x = few("a4(a1+5)");
        while (x.callsLeft() > 4) {
            x.count(2);
        }
        c.due("the 509th call", x.book(), 2);
        c.due("the 510th call", x.leaves(2), 4);
        c.due("the 511th call", x.leaves(3), BAD);
        c.due("the 512th call", x.status(), 1);
    }
}

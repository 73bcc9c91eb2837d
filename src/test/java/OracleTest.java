import java.util.Random;

/** All promises: runs of calls by fixed seeds, each answer as the oracle's, and now and then STATUS, place and fault behind it. */
public final class OracleTest {
    /** The dearest step: a text of 120 bytes, read, and STATUS, place and fault behind each of its calls. */
    private static final int CALLS_A_STEP = 40;

    private final Checks checks;
    private final Random random;
    private final Subject x = new Subject();
    private final Oracle oracle = new Oracle();
    private final String run;
    private int calls;

    private OracleTest(Checks checks, int seed) {
        this.checks = checks;
        random = new Random(seed);
        run = "run " + seed + ", call ";
    }

    public static void main(String[] args) {
        int runs = args.length > 0 ? Integer.parseInt(args[0]) : 1500;
        Checks checks = new Checks("OracleTest");
        for (int seed = 0; seed < runs; seed++) {
            new OracleTest(checks, seed).go();
        }
        checks.finish();
    }

    private void go() {
        while (x.callsLeft() >= CALLS_A_STEP) {
            int kind = random.nextInt(12);
            if (kind < 3) {
                text();
            } else if (kind == 3) {
                oddFeed();
            } else {
                question();
            }
        }
    }

    private void due(String what, int got, int want) {
        calls++;
        checks.due(run + calls + " " + what, got, want);
        if (rarely(3)) {
            dueStatus(what);
        }
        if (rarely(8)) {
            duePlaceAndFault(what);
        }
    }

    private void dueOfText(String what, int got, int want) {
        due(what, got, want);
        dueStatus(what);
        duePlaceAndFault(what);
    }

    private void dueStatus(String what) {
        checks.due(run + calls + " status() behind " + what, x.status(), oracle.status);
    }

    private void duePlaceAndFault(String what) {
        checks.due(run + calls + " place() behind " + what, x.place(), oracle.place);
        checks.due(run + calls + " fault() behind " + what, x.fault(), oracle.fault);
    }

    private int some(int bound) {
        return random.nextInt(bound);
    }

    private boolean rarely(int in) {
        return random.nextInt(in) == 0;
    }

    private void text() {
        String text;
        int kind = oracle.books.isEmpty() ? 0 : some(8);
        int book = rarely(20) ? some(12) - 2 : some(oracle.books.size() + 1) ;
        if (book == oracle.books.size() && !rarely(8)) {
            book = Math.max(0, book - 1);
        }
        Oracle.Book of = book >= 0 && book < oracle.books.size() ? oracle.books.get(book) : null;
        if (kind < 2) {
            text = formula();
        } else if (kind < 4) {
            text = changes(of);
        } else if (kind < 7) {
            text = row(of);
        } else {
            text = leafName(of);
        }
        text = spoil(text);
        if (text.length() > 120) {
            text = text.substring(0, 120);
        }
        put(text);
        if (kind < 2) {
            dueOfText("book of '" + text + "'", x.book(), oracle.book());
        } else if (kind < 4) {
            dueOfText("change(" + book + ") by '" + text + "'", x.change(book), oracle.change(book));
        } else if (kind < 7) {
            dueOfText("copy(" + book + ") of '" + text + "'", x.copy(book), oracle.copy(book));
        } else {
            dueOfText("find(" + book + ") '" + text + "'", x.find(book), oracle.find(book));
        }
    }

    private void put(String text) {
        due("end(0)", x.end(0), oracle.end(0));
        for (int at = 0; at < text.length(); at += 20) {
            StringBuilder bytes = new StringBuilder(text.substring(at, Math.min(at + 20, text.length())));
            while (bytes.length() < 20) {
                bytes.append('~');
            }
            feed(bytes.toString());
        }
        due("end(" + text.length() + ")", x.end(text.length()), oracle.end(text.length()));
    }

    private void feed(String bytes) {
        int[] words = new int[5];
        for (int i = 0; i < 20; i++) {
            words[i / 4] |= (bytes.charAt(i) & 255) << 24 - i % 4 * 8;
        }
        due("feed '" + bytes + "'", x.feed(words[0], words[1], words[2], words[3], words[4]), oracle.feed(bytes));
    }

    private void oddFeed() {
        int kind = some(4);
        if (kind < 2) {
            StringBuilder bytes = new StringBuilder();
            for (int i = 0; i < 20; i++) {
                bytes.append((char) some(256));
            }
            feed(bytes.toString());
        } else if (kind == 2) {
            int n = odd(121);
            due("end(" + n + ")", x.end(n), oracle.end(n));
        } else if (rarely(2)) {
            dueOfText("book", x.book(), oracle.book());
        }
    }

    /** A number that is mostly within a bound. */
    private int odd(int bound) {
        int kind = some(20);
        if (kind == 0) {
            return random.nextInt();
        }
        return kind == 1 ? some(7) - 3 : kind == 2 ? bound + some(3) - 1 : some(Math.max(1, bound));
    }

    private int book() {
        return odd(oracle.books.size());
    }

    private int copy() {
        return odd(oracle.copies.size());
    }

    private int placeIn(int book) {
        return odd(book >= 0 && book < oracle.books.size() ? oracle.books.get(book).leaves.size() : 3);
    }

    private int format() {
        return rarely(15) ? some(12) - 2 : 2 << some(3);
    }

    private void question() {
        int b = book();
        int p = placeIn(b);
        int c = copy();
        int f = format();
        int what = rarely(20) ? random.nextInt() : some(8) - 1;
        int k = rarely(3) ? odd(60) : some(12);
        boolean hasBook = b >= 0 && b < oracle.books.size();
        switch (some(17)) {
            case 0 -> due("count(" + what + ")", x.count(what), oracle.count(what));
            case 1 -> due("gatherings(" + b + ")", x.gatherings(b), oracle.gatherings(b));
            case 2 -> {
                int g = odd(hasBook ? oracle.books.get(b).gatherings.size() : 2);
                due("gathering(" + b + ", " + g + ", " + what + ")", x.gathering(b, g, what), oracle.gathering(b, g, what));
            }
            case 3 -> due("leaves(" + b + ")", x.leaves(b), oracle.leaves(b));
            case 4 -> due("leaf(" + b + ", " + p + ", " + what + ")", x.leaf(b, p, what), oracle.leaf(b, p, what));
            case 5 -> {
                k = odd(hasBook ? oracle.books.get(b).written().length() : 2);
                due("letter(" + b + ", " + k + ")", x.letter(b, k), oracle.letter(b, k));
            }
            case 6 -> {
                k = odd(6);
                due("name(" + b + ", " + p + ", " + k + ")", x.name(b, p, k), oracle.name(b, p, k));
            }
            case 7 -> {
                int other = book();
                due("same(" + b + ", " + other + ")", x.same(b, other), oracle.same(b, other));
            }
            case 8 -> due("sheets(" + b + ", " + f + ")", x.sheets(b, f), oracle.sheets(b, f));
            case 9 -> {
                what = rarely(9) ? what : some(2);
                due("sheet(" + b + ", " + p + ", " + f + ", " + what + ")", x.sheet(b, p, f, what), oracle.sheet(b, p, f, what));
            }
            case 10 -> {
                what = rarely(9) ? what : some(2);
                due("forme(" + b + ", " + p + ", " + what + ", " + f + ")", x.forme(b, p, what, f), oracle.forme(b, p, what, f));
            }
            case 11 -> due("state(" + c + ", " + what + ")", x.state(c, what), oracle.state(c, what));
            case 12 -> due("entry(" + c + ", " + k + ")", x.entry(c, k), oracle.entry(c, k));
            case 13 -> due("told(" + c + ", " + what + ", " + k + ")", x.told(c, what, k), oracle.told(c, what, k));
            case 14 -> {
                k = odd(c >= 0 && c < oracle.copies.size() ? oracle.copies.get(c).note().length() : 2);
                due("note(" + c + ", " + k + ")", x.note(c, k), oracle.note(c, k));
            }
            case 15 -> {
                int other = copy();
                due("apart(" + c + ", " + other + ")", x.apart(c, other), oracle.apart(c, other));
            }
            default -> {
                int other = copy();
                if (rarely(4)) {
                    due("together(" + c + ", " + other + ")", x.together(c, other), oracle.together(c, other));
                }
            }
        }
    }

    private String blanks() {
        return rarely(12) ? " ".repeat(some(3)) : "";
    }

    private String number(int n) {
        return blanks() + (rarely(15) && n < 100 ? "0" + n : "" + n);
    }

    private int size() {
        return rarely(40) ? some(15) : new int[] {1, 2, 2, 4, 4, 6, 8, 8, 8, 10, 12, 12}[some(12)];
    }

    private String formula() {
        StringBuilder text = new StringBuilder();
        int sign = rarely(3) ? 0 : 1 + some(rarely(3) ? 60 : 10);
        int groups = 1 + some(6);
        for (int g = 0; g < groups; g++) {
            boolean chi = rarely(12);
            boolean spread = !chi && sign > 0 && rarely(2);
            int first = chi ? 70 : Math.min(sign, 69);
            int last = spread ? Math.min(70, first + 1 + some(rarely(6) ? 40 : 4)) : first;
            int n = size();
            int m = spread && rarely(2) ? size() : -1;
            text.append(blanks()).append(Oracle.sign(first));
            if (spread) {
                text.append(blanks()).append("-").append(blanks()).append(Oracle.sign(last));
            }
            text.append(number(n));
            if (m >= 0) {
                text.append(blanks()).append(",").append(number(m));
            }
            if (rarely(2)) {
                text.append(blanks()).append("(");
                int many = 1 + some(4);
                for (int i = 0; i < many; i++) {
                    int of = first + some(last - first + 1) + (rarely(30) ? 1 : 0);
                    text.append(i > 0 ? "," : "").append(change(Math.min(of, 70), 1 + some(rarely(20) ? 13 : Math.max(1, n))));
                }
                text.append(blanks()).append(")");
            }
            text.append(rarely(2) ? " " : "");
            sign = chi ? sign : last + 1 + (rarely(3) ? some(3) : 0) - (rarely(30) ? 1 : 0);
        }
        return text.toString();
    }

    private String change(int sign, int i) {
        String leaf = blanks() + Oracle.sign(sign) + number(i);
        int kind = some(3);
        return blanks() + (kind == 0 ? "-" + leaf : kind == 1 ? "=" + leaf
            : leaf + blanks() + "+" + number(rarely(20) ? some(7) : 1 + some(4)));
    }

    private String changes(Oracle.Book book) {
        StringBuilder text = new StringBuilder();
        int many = 1 + some(4);
        for (int c = 0; c < many; c++) {
            int sign = some(71);
            int i = some(13);
            if (book != null && !rarely(30)) {
                Oracle.Gathering g = book.gatherings.get(some(book.gatherings.size()));
                sign = g.sign;
                i = 1 + some(g.n);
            }
            text.append(c > 0 ? "," : "").append(change(sign, i));
        }
        return text.toString();
    }

    private String leafName(Oracle.Book book) {
        if (book == null || book.leaves.isEmpty() || rarely(40)) {
            return Oracle.sign(some(71)) + number(some(13)) + (rarely(2) ? "+" + number(some(6)) : "");
        }
        return blanks() + book.name(some(book.leaves.size())) + blanks();
    }

    private String row(Oracle.Book book) {
        StringBuilder text = new StringBuilder();
        int many = 1 + some(10);
        for (int i = 0; i < many; i++) {
            text.append(i > 0 && rarely(2) ? " " : "");
            if (book != null && book.leaves.size() > 1 && rarely(2)) {
                int first = some(book.leaves.size() - 1);
                int last = first + 1 + some(book.leaves.size() - 1 - first);
                last = rarely(40) ? some(book.leaves.size()) : rarely(2) ? last : Math.min(first + 3, last);
                text.append(book.name(first)).append(blanks()).append("-").append(blanks()).append(book.name(last));
            } else {
                text.append(leafName(book));
            }
        }
        return text.toString();
    }

    /** Now and then a text with one thing wrong in it. */
    private String spoil(String text) {
        if (!rarely(6) || text.isEmpty()) {
            return text;
        }
        int at = some(text.length());
        String odd = "(),-+= abijzpch012345?J\t\u00ff";
        char c = odd.charAt(some(odd.length()));
        return switch (some(4)) {
            case 0 -> text.substring(0, at);
            case 1 -> text.substring(0, at) + text.substring(at + 1);
            case 2 -> text.substring(0, at) + c + text.substring(at);
            default -> text.substring(0, at) + c + text.substring(at + 1);
        };
    }
}

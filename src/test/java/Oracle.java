import java.util.ArrayList;
import java.util.HashSet;
import java.util.List;
import java.util.Set;
import java.util.regex.Matcher;
import java.util.regex.Pattern;

/**
 * The document once more, in another way than the class: texts by patterns, BOOKS by lists of leaves, each answer
 * worked out anew when it is asked for.
 */
final class Oracle {
    private static final int BAD = -9;
    private static final String SN = "SN";
    private static final String CHANGE = "(?:[-=]SN|SN\\+N)";
    private static final String CHANGES = CHANGE + "(?:," + CHANGE + ")*";
    private static final Pattern FORMULA =
        Pattern.compile("(?:S(?:N|-SN(?:,N)?)(?:\\(" + CHANGES + "\\))?)+");
    private static final Pattern CHANGE_LIST = Pattern.compile(CHANGES);
    private static final Pattern ROW = Pattern.compile("(?:SN(?:\\+N)?(?:-SN(?:\\+N)?)?)+");
    private static final Pattern NAME = Pattern.compile("SN(?:\\+N)?");
    private static final Pattern PIECE = Pattern.compile(" *([a-z]+|[0-9]+|[(),\\-+=])");

    record Leaf(int g, int i, int kind, int k) { }

    record Change(char mark, int sign, int i, int k) { }

    static final class Gathering {
        final int sign;
        final int n;
        final List<Change> changes = new ArrayList<>();

        Gathering(int sign, int n) {
            this.sign = sign;
            this.n = n;
        }

        boolean has(char mark, int i) {
            return changes.stream().anyMatch(c -> c.mark == mark && c.i == i);
        }

        int put(int i) {
            return changes.stream().filter(c -> c.mark == '+' && c.i == i).mapToInt(c -> c.k).sum();
        }
    }

    static final class Book {
        final List<Gathering> gatherings = new ArrayList<>();
        final List<Leaf> leaves = new ArrayList<>();

        int all() {
            int sum = 0;
            for (Gathering g : gatherings) {
                sum += g.n;
                for (int i = 1; i <= g.n; i++) {
                    sum += g.put(i);
                }
            }
            return sum;
        }

        Book close() {
            for (int g = 0; g < gatherings.size(); g++) {
                Gathering of = gatherings.get(g);
                for (int i = 1; i <= of.n; i++) {
                    if (!of.has('-', i)) {
                        leaves.add(new Leaf(g, i, of.has('=', i) ? 1 : 0, 0));
                    }
                    for (int k = 1; k <= of.put(i); k++) {
                        leaves.add(new Leaf(g, i, 2, k));
                    }
                }
            }
            return this;
        }

        int conjugate(int place) {
            Leaf leaf = leaves.get(place);
            for (int p = 0; p < leaves.size(); p++) {
                Leaf other = leaves.get(p);
                if (leaf.kind == 0 && other.kind == 0 && leaf.g == other.g && leaf.i != other.i
                    && leaf.i + other.i == gatherings.get(leaf.g).n + 1) {
                    return p;
                }
            }
            return -1;
        }

        String name(int place) {
            Leaf leaf = leaves.get(place);
            return sign(gatherings.get(leaf.g).sign) + leaf.i + (leaf.kind == 2 ? "+" + leaf.k : "");
        }

        String written() {
            StringBuilder text = new StringBuilder();
            for (int g = 0; g < gatherings.size();) {
                Gathering first = gatherings.get(g);
                int end = g + 1;
                while (first.sign != 0 && end < gatherings.size() && gatherings.get(end).n == first.n
                    && gatherings.get(end).sign == first.sign + end - g && gatherings.get(end).sign != 70) {
                    end++;
                }
                text.append(g > 0 ? " " : "").append(sign(first.sign));
                if (end > g + 1) {
                    text.append("-").append(sign(gatherings.get(end - 1).sign));
                }
                text.append(first.n);
                List<String> changes = new ArrayList<>();
                for (; g < end; g++) {
                    Gathering of = gatherings.get(g);
                    for (int i = 1; i <= of.n; i++) {
                        for (char mark : new char[] {'-', '='}) {
                            if (of.has(mark, i)) {
                                changes.add(mark + sign(of.sign) + i);
                            }
                        }
                        if (of.put(i) > 0) {
                            changes.add(sign(of.sign) + i + "+" + of.put(i));
                        }
                    }
                }
                if (!changes.isEmpty()) {
                    text.append("(").append(String.join(",", changes)).append(")");
                }
            }
            return text.toString();
        }

        /** The i's of a GATHERING that lie on one SHEET. */
        List<Integer> onSheet(int n, int sheet, int format) {
            List<Integer> list = new ArrayList<>();
            for (int i = 1; i <= n; i++) {
                if (depth(n, i) / (format / 2) == sheet) {
                    list.add(i);
                }
            }
            return list;
        }

        private static int depth(int n, int i) {
            return n - i < i - 1 ? n - i : i - 1;
        }

        int sheetsOf(int n, int format) {
            Set<Integer> sheets = new HashSet<>();
            for (int i = 1; i <= n; i++) {
                sheets.add(depth(n, i) / (format / 2));
            }
            return sheets.size();
        }

        int sheet(int place, int format, int what) {
            Leaf leaf = leaves.get(place);
            if (leaf.kind != 0) {
                return -1;
            }
            int ahead = 0;
            for (int g = 0; g < leaf.g; g++) {
                ahead += sheetsOf(gatherings.get(g).n, format);
            }
            int n = gatherings.get(leaf.g).n;
            int sheet = depth(n, leaf.i) / (format / 2);
            return what == 0 ? ahead + sheet : onSheet(n, sheet, format).indexOf(leaf.i) + 1;
        }
    }

    static final class Copy {
        final int number;
        final Book book;
        final List<Integer> entries;

        Copy(int number, Book book, List<Integer> entries) {
            this.number = number;
            this.book = book;
            this.entries = entries;
        }

        int times(int place) {
            int times = 0;
            for (int e : entries) {
                times += e == place ? 1 : 0;
            }
            return times;
        }

        List<Integer> list(int what) {
            List<Integer> list = new ArrayList<>();
            for (int p = 0; p < book.leaves.size() && what != 4; p++) {
                int conjugate = book.conjugate(p);
                if (what == 2 && times(p) == 0 || what == 3 && times(p) > 1
                    || what == 5 && times(p) > 0 && conjugate >= 0 && times(conjugate) == 0) {
                    list.add(p);
                }
            }
            if (what == 4) {
                List<Integer> rest = rest();
                for (int e = 0; e < entries.size(); e++) {
                    if (!rest.contains(e)) {
                        list.add(e);
                    }
                }
            }
            return list;
        }

        /** Of each ENTRY the best row that begins with it, from the last one on. */
        private List<Integer> rest() {
            List<List<Integer>> best = new ArrayList<>();
            for (int e = 0; e < entries.size(); e++) {
                best.add(null);
            }
            List<Integer> whole = List.of();
            for (int e = entries.size() - 1; e >= 0; e--) {
                List<Integer> tail = List.of();
                for (int f = e + 1; f < entries.size(); f++) {
                    if (entries.get(f) > entries.get(e) && isBetter(best.get(f), tail)) {
                        tail = best.get(f);
                    }
                }
                List<Integer> row = new ArrayList<>();
                row.add(e);
                row.addAll(tail);
                best.set(e, row);
                if (isBetter(row, whole)) {
                    whole = row;
                }
            }
            return whole;
        }

        private static boolean isBetter(List<Integer> a, List<Integer> b) {
            if (a.size() != b.size()) {
                return a.size() > b.size();
            }
            for (int i = 0; i < a.size(); i++) {
                if (!a.get(i).equals(b.get(i))) {
                    return a.get(i) < b.get(i);
                }
            }
            return false;
        }

        String note() {
            List<String> parts = new ArrayList<>();
            String missing = runs(list(2));
            String doubled = runs(list(3));
            List<String> moved = new ArrayList<>();
            for (int e : list(4)) {
                moved.add(book.name(entries.get(e)));
            }
            if (!missing.isEmpty()) {
                parts.add("lacks " + missing);
            }
            if (!doubled.isEmpty()) {
                parts.add("twice " + doubled);
            }
            if (!moved.isEmpty()) {
                parts.add("moved " + String.join(", ", moved));
            }
            return String.join("; ", parts);
        }

        private String runs(List<Integer> places) {
            List<String> runs = new ArrayList<>();
            Set<Integer> set = new HashSet<>(places);
            for (int p : places) {
                if (set.contains(p - 1)) {
                    continue;
                }
                int last = p;
                while (set.contains(last + 1)) {
                    last++;
                }
                runs.add(last == p ? book.name(p) : book.name(p) + "-" + book.name(last));
            }
            return String.join(", ", runs);
        }
    }

    final List<Book> books = new ArrayList<>();
    final List<Copy> copies = new ArrayList<>();
    String tape = "";
    int place = BAD;
    int fault;
    int status;

    private List<String> pieces;
    private int next;

    static String sign(int number) {
        if (number == 0 || number == 70) {
            return number == 0 ? "pi" : "chi";
        }
        String letters = "abcdefghijklmnopqrstuvwxyz".replaceAll("[juw]", "");
        return ("" + letters.charAt((number - 1) % 23)).repeat((number + 22) / 23);
    }

    private static int signNumber(String word) {
        for (int s = 0; s <= 70; s++) {
            if (sign(s).equals(word)) {
                return s;
            }
        }
        return -1;
    }

    private int no(int number) {
        status = number;
        return BAD;
    }

    private int yes(int value) {
        status = 0;
        return value;
    }

    /** Reads the TAPE by a pattern of PIECES; false if it is WRONG. */
    private boolean read(Pattern pattern) {
        place = BAD;
        fault = 0;
        pieces = new ArrayList<>();
        next = 0;
        StringBuilder shape = new StringBuilder();
        int at = 0;
        String text = tape;
        tape = "";
        while (!text.substring(at).replace(" ", "").isEmpty()) {
            Matcher m = PIECE.matcher(text).region(at, text.length());
            int start = at;
            while (text.charAt(start) == ' ') {
                start++;
            }
            String piece = m.lookingAt() ? m.group(1) : "?";
            char c = piece.charAt(0);
            boolean word = c >= 'a' && c <= 'z';
            boolean number = c >= '0' && c <= '9';
            char kind = word ? signNumber(piece) >= 0 ? 'S' : '?' : number ? piece.length() <= 3 ? 'N' : '?' : c;
            shape.append(kind);
            Matcher whole = pattern.matcher(shape);
            if (!whole.matches() && !whole.hitEnd()) {
                place = start;
                return false;
            }
            pieces.add(piece);
            at = start + piece.length();
        }
        if (!pattern.matcher(shape).matches()) {
            place = text.length();
            return false;
        }
        return true;
    }

    private boolean isNext(String mark) {
        if (next < pieces.size() && pieces.get(next).equals(mark)) {
            next++;
            return true;
        }
        return false;
    }

    private int sign() {
        return signNumber(pieces.get(next++));
    }

    private int number() {
        return Integer.parseInt(pieces.get(next++));
    }

    private List<Change> changes() {
        List<Change> list = new ArrayList<>();
        do {
            char mark = isNext("-") ? '-' : isNext("=") ? '=' : '+';
            int sign = sign();
            int i = number();
            int k = mark == '+' && isNext("+") ? number() : 0;
            list.add(new Change(mark, sign, i, k));
        } while (isNext(","));
        return list;
    }

    private static Gathering bySign(Book book, int from, int sign) {
        for (Gathering g : book.gatherings.subList(from, book.gatherings.size())) {
            if (g.sign == sign) {
                return g;
            }
        }
        return null;
    }

    /** The FAULT of 4 to 6 of these CHANGES to the GATHERINGS from one on; makes them. */
    private static int apply(Book book, int from, List<Change> changes) {
        boolean four = false;
        boolean five = false;
        boolean six = false;
        for (Change c : changes) {
            Gathering g = bySign(book, from, c.sign);
            four |= g == null || c.i < 1 || c.i > g.n;
            five |= c.mark == '+' && (c.k < 1 || c.k > 4);
            if (g != null) {
                six |= c.mark == '+' ? g.has('+', c.i) : g.has('-', c.i) || g.has('=', c.i);
                g.changes.add(c);
            }
        }
        return four ? 4 : five ? 5 : six ? 6 : 0;
    }

    int book() {
        if (!read(FORMULA)) {
            return no(2);
        }
        Book book = new Book();
        boolean chi = false;
        int highest = -1;
        while (next < pieces.size()) {
            int first = sign();
            boolean spread = isNext("-");
            int last = spread ? sign() : first;
            int n = number();
            int m = spread && isNext(",") ? number() : n;
            List<Change> changes = isNext("(") ? changes() : List.of();
            isNext(")");
            Set<Integer> sizes = Set.of(1, 2, 4, 6, 8, 10, 12);
            Set<Integer> ends = Set.of(0, 70);
            if (spread && (ends.contains(first) || ends.contains(last) || last <= first)) {
                fault = 1;
            } else if (first == 70 ? chi : first <= highest) {
                fault = 2;
            } else if (!sizes.contains(n) || !sizes.contains(m)) {
                fault = 3;
            } else {
                int from = book.gatherings.size();
                for (int s = first; s <= last; s++) {
                    book.gatherings.add(new Gathering(s, (s - first) % 2 == 0 ? n : m));
                }
                fault = apply(book, from, changes);
            }
            if (fault != 0) {
                return no(4);
            }
            chi |= first == 70;
            highest = first == 70 ? highest : last;
        }
        return keep(book);
    }

    private int keep(Book book) {
        if (books.size() >= 8 || book.all() > 400) {
            return no(9);
        }
        books.add(book.close());
        return yes(books.size() - 1);
    }

    private Book bookAt(int b) {
        return b >= 0 && b < books.size() ? books.get(b) : null;
    }

    private Copy copyAt(int c) {
        return c >= 0 && c < copies.size() ? copies.get(c) : null;
    }

    private Book withLeaf(int b, int p) {
        Book book = bookAt(b);
        return book != null && p >= 0 && p < book.leaves.size() ? book : null;
    }

    int change(int b) {
        Book old = bookAt(b);
        if (old == null) {
            tape = "";
            return no(1);
        }
        if (!read(CHANGE_LIST)) {
            return no(2);
        }
        Book book = new Book();
        for (Gathering g : old.gatherings) {
            Gathering now = new Gathering(g.sign, g.n);
            now.changes.addAll(g.changes);
            book.gatherings.add(now);
        }
        fault = apply(book, 0, changes());
        return fault != 0 ? no(4) : keep(book);
    }

    private int leafByName(Book book) {
        int sign = sign();
        int i = number();
        String name = sign(sign) + i + (isNext("+") ? "+" + number() : "");
        for (int p = 0; p < book.leaves.size(); p++) {
            if (book.name(p).equals(name)) {
                return p;
            }
        }
        return -1;
    }

    int copy(int b) {
        Book book = bookAt(b);
        if (book == null) {
            tape = "";
            return no(1);
        }
        if (!read(ROW)) {
            return no(2);
        }
        List<Integer> entries = new ArrayList<>();
        while (next < pieces.size()) {
            int first = leafByName(book);
            boolean joined = isNext("-");
            int last = joined ? leafByName(book) : first;
            if (first < 0 || last < 0 || joined && last <= first) {
                fault = 7;
            }
            for (int p = Math.max(first, 0); p <= last; p++) {
                entries.add(p);
            }
        }
        if (fault != 0) {
            return no(4);
        }
        if (copies.size() >= 16 || entries.size() > 400) {
            return no(9);
        }
        copies.add(new Copy(b, book, entries));
        return yes(copies.size() - 1);
    }

    int find(int b) {
        Book book = bookAt(b);
        if (book == null) {
            tape = "";
            return no(1);
        }
        return read(NAME) ? yes(leafByName(book)) : no(2);
    }

    int feed(String bytes) {
        if (tape.length() + 20 > 120) {
            return no(9);
        }
        tape += bytes;
        return yes(tape.length());
    }

    int end(int n) {
        if (n < 0 || n > tape.length()) {
            return no(3);
        }
        tape = tape.substring(0, n);
        return yes(n);
    }

    int count(int what) {
        return what == 0 ? yes(books.size()) : what == 1 ? yes(copies.size()) : what == 2 ? yes(tape.length()) : no(3);
    }

    int gatherings(int b) {
        return bookAt(b) == null ? no(1) : yes(bookAt(b).gatherings.size());
    }

    int gathering(int b, int g, int what) {
        Book book = bookAt(b);
        if (book == null || g < 0 || g >= book.gatherings.size()) {
            return no(1);
        }
        Gathering of = book.gatherings.get(g);
        int held = (int) book.leaves.stream().filter(leaf -> leaf.g == g).count();
        int cut = (int) of.changes.stream().filter(c -> c.mark == '-').count();
        int[] all = {of.sign, of.n, held, cut};
        return what < 0 || what > 3 ? no(3) : yes(all[what]);
    }

    int leaves(int b) {
        return bookAt(b) == null ? no(1) : yes(bookAt(b).leaves.size());
    }

    int leaf(int b, int p, int what) {
        Book book = withLeaf(b, p);
        if (book == null) {
            return no(1);
        }
        Leaf leaf = book.leaves.get(p);
        int[] all = {leaf.g, leaf.i, leaf.kind, leaf.k, book.conjugate(p)};
        return what < 0 || what > 4 ? no(3) : yes(all[what]);
    }

    private int byteOf(String text, int k) {
        return k < 0 || k >= text.length() ? no(1) : yes(text.charAt(k));
    }

    int letter(int b, int k) {
        return bookAt(b) == null ? no(1) : byteOf(bookAt(b).written(), k);
    }

    int name(int b, int p, int k) {
        Book book = withLeaf(b, p);
        return book == null ? no(1) : byteOf(book.name(p), k);
    }

    int same(int one, int other) {
        if (bookAt(one) == null || bookAt(other) == null) {
            return no(1);
        }
        return yes(bookAt(one).written().equals(bookAt(other).written()) ? 1 : 0);
    }

    private static boolean isFormat(int f) {
        return Set.of(2, 4, 8).contains(f);
    }

    int sheets(int b, int f) {
        Book book = bookAt(b);
        if (book == null || !isFormat(f)) {
            return no(book == null ? 1 : 3);
        }
        int sum = 0;
        for (Gathering g : book.gatherings) {
            sum += book.sheetsOf(g.n, f);
        }
        return yes(sum);
    }

    int sheet(int b, int p, int f, int what) {
        Book book = withLeaf(b, p);
        if (book == null || !isFormat(f) || what < 0 || what > 1) {
            return no(book == null ? 1 : 3);
        }
        return yes(book.sheet(p, f, what));
    }

    int forme(int b, int p, int side, int f) {
        Book book = withLeaf(b, p);
        if (book == null || !isFormat(f) || side < 0 || side > 1) {
            return no(book == null ? 1 : 3);
        }
        int number = book.sheet(p, f, 1);
        return yes(number < 0 ? -1 : (number + 1 + side) % 2);
    }

    int state(int c, int what) {
        Copy copy = copyAt(c);
        if (copy == null || what < 0 || what > 5) {
            return no(copy == null ? 1 : 3);
        }
        return yes(what == 0 ? copy.number : what == 1 ? copy.entries.size() : copy.list(what).size());
    }

    private int numberOf(List<Integer> list, int k) {
        return k < 0 || k >= list.size() ? no(1) : yes(list.get(k));
    }

    int entry(int c, int i) {
        return copyAt(c) == null ? no(1) : numberOf(copyAt(c).entries, i);
    }

    int told(int c, int what, int k) {
        Copy copy = copyAt(c);
        if (copy == null || what < 2 || what > 5) {
            return no(copy == null ? 1 : 3);
        }
        return numberOf(copy.list(what), k);
    }

    int note(int c, int k) {
        return copyAt(c) == null ? no(1) : byteOf(copyAt(c).note(), k);
    }

    int apart(int one, int other) {
        Copy a = copyAt(one);
        Copy b = copyAt(other);
        if (a == null || b == null || a.book != b.book) {
            return no(a == null || b == null ? 1 : 4);
        }
        Set<Integer> first = new HashSet<>(a.entries);
        Set<Integer> second = new HashSet<>(b.entries);
        Set<Integer> both = new HashSet<>(first);
        both.retainAll(second);
        return yes(first.size() + second.size() - 2 * both.size());
    }

    int together(int one, int other) {
        Copy a = copyAt(one);
        Copy b = copyAt(other);
        if (a == null || b == null || a.book != b.book) {
            return no(a == null || b == null ? 1 : 4);
        }
        if (copies.size() >= 16) {
            return no(9);
        }
        Set<Integer> all = new java.util.TreeSet<>(a.entries);
        all.addAll(b.entries);
        copies.add(new Copy(a.number, a.book, new ArrayList<>(all)));
        return yes(copies.size() - 1);
    }
}

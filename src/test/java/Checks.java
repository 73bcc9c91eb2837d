/** What the tests share: a count of wrong answers, texts on the TAPE, and texts read off byte by byte. */
final class Checks {
    private final String title;
    private int checked;
    private int wrong;

    Checks(String title) {
        this.title = title;
    }

    void due(String what, long got, long want) {
        checked++;
        if (got != want) {
            wrong++;
            System.out.println(title + ": " + what + " answered " + got + ", due is " + want);
        }
    }

    void due(String what, String got, String want) {
        checked++;
        if (!got.equals(want)) {
            wrong++;
            System.out.println(title + ": " + what + " told '" + got + "', due is '" + want + "'");
        }
    }

    /** A call that must be refused with this number. */
    void refused(String what, Subject x, int got, int number) {
        due(what, got, LeafFormula.BAD);
        due(what + ", then status()", x.status(), number);
    }

    /** A call that must be taken. */
    void taken(String what, Subject x, int got, int want) {
        due(what, got, want);
        due(what + ", then status()", x.status(), 0);
    }

    void finish() {
        System.out.println(title + ": " + checked + " checked, " + wrong + " wrong");
        if (wrong != 0) {
            System.exit(1);
        }
    }

    /** Puts a text of up to 120 bytes on the TAPE, as all that it has. */
    static Subject tape(Subject x, String text) {
        x.end(0);
        for (int at = 0; at < text.length(); at += 20) {
            int[] words = new int[5];
            for (int i = 0; i < 20; i++) {
                int b = at + i < text.length() ? text.charAt(at + i) & 255 : 32;
                words[i / 4] = words[i / 4] << 8 | b;
            }
            x.feed(words[0], words[1], words[2], words[3], words[4]);
        }
        x.end(text.length());
        return x;
    }

    static int book(Subject x, String text) {
        return tape(x, text).book();
    }

    static int change(Subject x, int book, String text) {
        return tape(x, text).change(book);
    }

    static int copy(Subject x, int book, String text) {
        return tape(x, text).copy(book);
    }

    static int find(Subject x, int book, String text) {
        return tape(x, text).find(book);
    }

    static String written(Subject x, int book) {
        StringBuilder text = new StringBuilder();
        for (int k = 0; k < 10000; k++) {
            int b = x.letter(book, k);
            if (b == LeafFormula.BAD) {
                break;
            }
            text.append((char) b);
        }
        return text.toString();
    }

    static String note(Subject x, int copy) {
        StringBuilder text = new StringBuilder();
        for (int k = 0; k < 10000; k++) {
            int b = x.note(copy, k);
            if (b == LeafFormula.BAD) {
                break;
            }
            text.append((char) b);
        }
        return text.toString();
    }

    static String name(Subject x, int book, int place) {
        StringBuilder text = new StringBuilder();
        for (int k = 0; k < 100; k++) {
            int b = x.name(book, place, k);
            if (b == LeafFormula.BAD) {
                break;
            }
            text.append((char) b);
        }
        return text.toString();
    }

    /** All that told() tells of one kind, with blanks between. */
    static String told(Subject x, int copy, int what) {
        StringBuilder text = new StringBuilder();
        for (int k = 0; k < x.state(copy, what); k++) {
            text.append(k > 0 ? " " : "").append(x.told(copy, what, k));
        }
        return text.toString();
    }

    static String entries(Subject x, int copy) {
        StringBuilder text = new StringBuilder();
        for (int i = 0; i < x.state(copy, 1); i++) {
            text.append(i > 0 ? " " : "").append(x.entry(copy, i));
        }
        return text.toString();
    }
}

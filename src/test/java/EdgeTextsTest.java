import java.util.Set;
import java.util.function.ToIntFunction;

/** Terms 1, edge by edge: bytes, PIECES, which PIECE can stand behind which, and where a text without such is WRONG. */
public final class EdgeTextsTest {
    /** What was read so far, and all PIECES that can stand behind it: S a SIGN, N a NUMBER, E none at all. */
    private static final String[][] FORMULA = {
        {"", "S"}, {"a", "N-"}, {"a-", "S"}, {"a-b", "N"}, {"a-b8", "S(,E"}, {"a-b8,", "N"}, {"a-b8,4", "S(E"},
        {"a8", "S(E"}, {"a8(", "S-="}, {"a8(-", "S"}, {"a8(=", "S"}, {"a8(-a", "N"}, {"a8(=a", "N"}, {"a8(a", "N"},
        {"a8(-a1", "),"}, {"a8(=a1", "),"}, {"a8(a1", "+"}, {"a8(a1+", "N"}, {"a8(a1+1", "),"},
        {"a8(-a1,", "S-="}, {"a8(a1+1,", "S-="}, {"a8(-a1,=", "S"}, {"a8(-a1,a2", "+"}, {"a8(-a1,=a2", "),"},
        {"a8(-a1)", "SE"}, {"a-b8(", "S-="}, {"a-b8(=b1)", "SE"}, {"a-b8,4(", "S-="}, {"a-b8,4(b4+4)", "SE"},
        {"a8 b", "N-"}, {"a8(-a1)b", "N-"}, {"pi2", "S(E"}, {"chi2", "S(E"}, {"a8 chi", "N-"},
    };
    private static final String[][] CHANGES = {
        {"", "S-="}, {"-", "S"}, {"=", "S"}, {"-a", "N"}, {"=a", "N"}, {"a", "N"}, {"-a1", ",E"}, {"=a1", ",E"},
        {"a1", "+"}, {"a1+", "N"}, {"a1+1", ",E"}, {"-a1,", "S-="}, {"-a1,=", "S"}, {"-a1,b", "N"}, {"-a1,b1", "+"},
        {"-a1,b1+1", ",E"}, {"-a1,=b1", ",E"},
    };
    private static final String[][] ROW = {
        {"", "S"}, {"a", "N"}, {"a1", "S+-E"}, {"a1+", "N"}, {"a1+1", "S-E"}, {"a1-", "S"}, {"a1-b", "N"}, {"a1-b1", "S+E"},
        {"a1-b1+", "N"}, {"a1-b1+1", "SE"}, {"a1 b", "N"}, {"a1 b1", "S+-E"}, {"a1+1-", "S"}, {"a1+1-b1", "S+E"},
        {"a1-b1 a1", "S+-E"}, {"a1-b1 a1-", "S"},
    };
    private static final String[][] NAME = {
        {"", "S"}, {"a", "N"}, {"a1", "+E"}, {"a1+", "N"}, {"a1+1", "E"},
    };
    private static final String MARKS = "(),-+=";
    private static final String[] NEVER = {
        "1000", "0000", "99999", "j", "u", "w", "jj", "uuu", "ab", "aba", "aaaa", "zzzz", "pii", "pichi", "chipi", "ip",
        "?", "A", "Z", "_", ".", ";", ":", "/", "*", "<", ">", "`", "{", "@", "[", "\t", "\n", "\u0000", "\u001f", "!",
        "\u007f", "\u0080", "\u00a0", "\u00e1", "\u00ff"
    };
    private static final Set<Integer> SIZES = Set.of(1, 2, 4, 6, 8, 10, 12);

    public static void main(String[] args) {
        Checks c = new Checks("EdgeTextsTest");
        states(c, "FORMULA", FORMULA, x -> x.book());
        states(c, "CHANGES", CHANGES, x -> x.change(0));
        states(c, "ROW", ROW, x -> x.copy(0));
        states(c, "NAME", NAME, x -> x.find(0));
        bytes(c);
        bytesBetween(c);
        words(c);
        numbers(c);
        blanks(c);
        lengths(c);
        feeds(c);
        c.finish();
    }

    private static Subject withBook() {
        Subject x = new Subject();
        Checks.book(x, "a-b8");
        return x;
    }

    private static void states(Checks c, String kind, String[][] states, ToIntFunction<Subject> read) {
        for (String[] state : states) {
            String ahead = state[0];
            String can = state[1];
            stands(c, kind, ahead, "b", can.contains("S"), read);
            stands(c, kind, ahead, "chi", can.contains("S"), read);
            stands(c, kind, ahead, "4", can.contains("N"), read);
            for (char mark : MARKS.toCharArray()) {
                stands(c, kind, ahead, "" + mark, can.indexOf(mark) >= 0, read);
            }
            for (String never : NEVER) {
                stands(c, kind, ahead, never, false, read);
            }
            ends(c, kind, ahead, can.contains("E"), read);
            ends(c, kind, ahead + "  ", can.contains("E"), read);
        }
    }

    /** A byte that begins no PIECE behind it makes the text WRONG in any case: at the PIECE, or behind it. */
    private static void stands(Checks c, String kind, String ahead, String piece, boolean can, ToIntFunction<Subject> read) {
        String text = ahead + " " + piece + " ?";
        int at = can ? text.length() - 1 : ahead.length() + 1;
        wrongAt(c, kind, text, at, read);
    }

    private static void ends(Checks c, String kind, String text, boolean can, ToIntFunction<Subject> read) {
        if (!can) {
            wrongAt(c, kind, text, text.length(), read);
            return;
        }
        Subject x = Checks.tape(withBook(), text);
        read.applyAsInt(x);
        String what = "Terms 1: " + kind + " '" + text + "'";
        c.due(what + " is not WRONG", x.status() == 2 ? 1 : 0, 0);
        c.due(what + ", place()", x.place(), LeafFormula.BAD);
    }

    private static void wrongAt(Checks c, String kind, String text, int at, ToIntFunction<Subject> read) {
        Subject x = Checks.tape(withBook(), text);
        String what = "Terms 1: " + kind + " '" + text + "'";
        c.refused(what, x, read.applyAsInt(x), 2);
        c.due(what + ", place()", x.place(), at);
        c.due(what + ", fault()", x.fault(), 0);
        c.due(what + ", TAPE", x.count(2), 0);
        c.due(what + ", BOOKS", x.count(0), 1);
        c.due(what + ", COPIES", x.count(1), 0);
    }

    /** Each byte there is, behind a GROUP. */
    private static void bytes(Checks c) {
        for (int b = 0; b < 256; b++) {
            String text = "a8 " + (char) b;
            Subject x = Checks.tape(new Subject(), text);
            int got = x.book();
            boolean letter = b >= 'a' && b <= 'z' && b != 'j' && b != 'u' && b != 'w';
            int at = b == ' ' ? LeafFormula.BAD : letter || b == '(' ? 4 : 3;
            c.due("Terms 1: byte " + b + " behind a GROUP", got, b == ' ' ? 0 : LeafFormula.BAD);
            c.due("Terms 1: byte " + b + " behind a GROUP, place()", x.place(), at);
        }
    }

    /** Each byte there is with no BLANK between: within a WORD and a NUMBER, ahead of one, behind one. */
    private static void bytesBetween(Checks c) {
        for (int b = 0; b < 256; b++) {
            boolean letter = b >= 'a' && b <= 'z';
            boolean digit = b >= '0' && b <= '9';
            int in = b == ' ' || digit || b == 'a' ? LeafFormula.BAD : letter ? 0 : b == '-' ? 2 : 1;
            wrongOrRight(c, "a" + (char) b + "8", in);
            boolean sign = letter && "juw".indexOf(b) < 0;
            wrongOrRight(c, "a8" + (char) b, b == ' ' || digit ? LeafFormula.BAD : sign || b == '(' ? 3 : 2);
            wrongOrRight(c, (char) b + "a8", b == ' ' || b == 'a' ? LeafFormula.BAD : 0);
            int row = b == ' ' || digit || b == '-' || b == '+' || b == 'b' ? LeafFormula.BAD : 2;
            Subject x = withBook();
            Checks.copy(x, 0, "a1" + (char) b + (b == '+' ? "1" : "b1"));
            c.due("Terms 1: byte " + b + " between two NAMES, place()", x.place(), row);
        }
    }

    private static void wrongOrRight(Checks c, String text, int place) {
        Subject x = Checks.tape(new Subject(), text);
        x.book();
        c.due("Terms 1: '" + text + "', place()", x.place(), place);
        if (place != LeafFormula.BAD) {
            c.due("Terms 1: '" + text + "', fault()", x.fault(), 0);
            c.due("Terms 1: '" + text + "', BOOKS", x.count(0), 0);
        }
    }

    private static void words(Checks c) {
        String letters = "abcdefghijklmnopqrstuvwxyz";
        for (int i = 0; i < 26; i++) {
            word(c, letters.substring(i, i + 1));
            word(c, letters.substring(i, i + 1).repeat(4));
            word(c, letters.substring(i, i + 1).repeat(5));
            for (int k = 0; k < 26; k++) {
                word(c, "" + letters.charAt(i) + letters.charAt(k));
                for (int m = 0; m < 26; m++) {
                    word(c, "" + letters.charAt(i) + letters.charAt(k) + letters.charAt(m));
                }
            }
        }
        // WORDS are as long as they can be: a BLANK parts two, which can't stand one behind the other
        wrongAt(c, "FORMULA", "a a8", 2, x -> x.book());
        wrongAt(c, "FORMULA", "p i8", 2, x -> x.book());
        wrongAt(c, "FORMULA", "c h i8", 2, x -> x.book());
        wrongAt(c, "FORMULA", "a8pia8", 2, x -> x.book());
        wrongAt(c, "FORMULA", "pichi8", 0, x -> x.book());
        wrongAt(c, "ROW", "a1ab1", 2, x -> x.copy(0));
    }

    private static void word(Checks c, String word) {
        boolean same = word.chars().allMatch(b -> b == word.charAt(0));
        boolean sign = word.equals("pi") || word.equals("chi")
            || same && word.length() <= 3 && "juw".indexOf(word.charAt(0)) < 0;
        Subject x = new Subject();
        String what = "Terms 1: a GROUP of '" + word + "'";
        c.due(what, Checks.book(x, word + "8"), sign ? 0 : LeafFormula.BAD);
        c.due(what + ", place()", x.place(), sign ? LeafFormula.BAD : 0);
        if (sign) {
            c.due(what + " is WRITTEN", Checks.written(x, 0), word + "8");
        }
    }

    private static void numbers(Checks c) {
        for (int n = 0; n < 1000; n++) {
            for (String number : new String[] {"" + n, String.format("%02d", n), String.format("%03d", n)}) {
                boolean size = SIZES.contains(n);
                Subject x = new Subject();
                c.due("Terms 1: a NUMBER " + number, Checks.book(x, "a" + number), size ? 0 : LeafFormula.BAD);
                c.due("Terms 1: a NUMBER " + number + ", fault()", x.fault(), size ? 0 : 3);
                c.due("Terms 1: a NUMBER " + number + ", place()", x.place(), LeafFormula.BAD);
            }
        }
        // three digits stand wherever a NUMBER does, four nowhere
        String[][] around = {{"a", ""}, {"a-b", ""}, {"a-b8,", ""}, {"a8(-a", ")"}, {"a8(=a", ")"}, {"a8(a", "+1)"}, {"a8(a1+", ")"}};
        for (String[] text : around) {
            wrongAt(c, "FORMULA", text[0] + "0001" + text[1], text[0].length(), x -> x.book());
            wrongAt(c, "FORMULA", text[0] + "1000" + text[1], text[0].length(), x -> x.book());
            right(c, "FORMULA", text[0] + "001" + text[1], x -> x.book());
        }
        for (String[] text : new String[][] {{"-a", ""}, {"=a", ""}, {"a", "+1"}, {"a1+", ""}}) {
            wrongAt(c, "CHANGES", text[0] + "0001" + text[1], text[0].length(), x -> x.change(0));
            right(c, "CHANGES", text[0] + "001" + text[1], x -> x.change(0));
        }
        for (String[] text : new String[][] {{"b1 a", ""}, {"a", "-b1"}, {"a1-b", ""}}) {
            wrongAt(c, "ROW", text[0] + "0001" + text[1], text[0].length(), x -> x.copy(0));
            right(c, "ROW", text[0] + "001" + text[1], x -> x.copy(0));
        }
        wrongAt(c, "ROW", "a1+0001", 3, x -> x.copy(0));
        wrongAt(c, "NAME", "a0001", 1, x -> x.find(0));
        wrongAt(c, "NAME", "a1+0001", 3, x -> x.find(0));
        right(c, "NAME", "a001", x -> x.find(0));
        right(c, "NAME", "a999+999", x -> x.find(0));
        // NUMBERS are as long as they can be: a BLANK parts two
        wrongAt(c, "FORMULA", "a1 2", 3, x -> x.book());
        wrongAt(c, "NAME", "a0 01", 3, x -> x.find(0));
    }

    private static void right(Checks c, String kind, String text, ToIntFunction<Subject> read) {
        Subject x = Checks.tape(withBook(), text);
        int got = read.applyAsInt(x);
        String what = "Terms 1: " + kind + " '" + text + "'";
        c.due(what + " is taken", x.status(), 0);
        c.due(what + " answers BAD", got == LeafFormula.BAD ? 1 : 0, 0);
        c.due(what + ", place()", x.place(), LeafFormula.BAD);
        c.due(what + ", fault()", x.fault(), 0);
        c.due(what + ", TAPE", x.count(2), 0);
    }

    /** None are wanted, any may be there. */
    private static void blanks(Checks c) {
        String[] pieces = {"a", "-", "d", "8", ",", "4", "(", "-", "a", "1", ",", "=", "b", "2", ",", "c", "3", "+", "2", ")", "e", "6"};
        for (int many = 0; many < 4; many++) {
            String text = " ".repeat(many) + String.join(" ".repeat(many), pieces) + " ".repeat(many);
            Subject x = new Subject();
            c.taken("Terms 1: " + many + " BLANKS between", x, Checks.book(x, text), 0);
            c.due("Terms 1: " + many + " BLANKS between, WRITTEN", Checks.written(x, 0), "a8(-a1) b4(=b2) c8(c3+2) d4 e6");
        }
        right(c, "CHANGES", "  -  a  1  ,  b  2  +  3  ", x -> x.change(0));
        right(c, "CHANGES", "-a1,b2+3", x -> x.change(0));
        right(c, "ROW", "  a  1  -  b  2  b  1  ", x -> x.copy(0));
        right(c, "ROW", "a1-b2b1", x -> x.copy(0));
        right(c, "NAME", "  a  1  +  1  ", x -> x.find(0));
        wrongAt(c, "FORMULA", "", 0, x -> x.book());
        wrongAt(c, "CHANGES", "", 0, x -> x.change(0));
        wrongAt(c, "ROW", "", 0, x -> x.copy(0));
        wrongAt(c, "NAME", "", 0, x -> x.find(0));
    }

    /** The TAPE's 120 bytes, the last one and behind it. */
    private static void lengths(Checks c) {
        right(c, "FORMULA", " ".repeat(118) + "a8", x -> x.book());
        right(c, "FORMULA", " ".repeat(116) + "a012", x -> x.book());
        right(c, "FORMULA", "a8" + " ".repeat(118), x -> x.book());
        right(c, "CHANGES", " ".repeat(117) + "-a1", x -> x.change(0));
        right(c, "CHANGES", " ".repeat(116) + "a1+4", x -> x.change(0));
        right(c, "ROW", " ".repeat(115) + "a1-b8", x -> x.copy(0));
        right(c, "ROW", "a1".repeat(60), x -> x.copy(0));
        right(c, "NAME", " ".repeat(118) + "b8", x -> x.find(0));
        wrongAt(c, "FORMULA", " ".repeat(120), 120, x -> x.book());
        wrongAt(c, "FORMULA", " ".repeat(119) + "a", 120, x -> x.book());
        wrongAt(c, "FORMULA", " ".repeat(119) + "j", 119, x -> x.book());
        wrongAt(c, "FORMULA", " ".repeat(116) + "1000", 116, x -> x.book());
        wrongAt(c, "FORMULA", "a".repeat(120), 0, x -> x.book());
        wrongAt(c, "FORMULA", "1".repeat(120), 0, x -> x.book());
        wrongAt(c, "FORMULA", "a" + "1".repeat(119), 1, x -> x.book());
        wrongAt(c, "FORMULA", "(".repeat(120), 0, x -> x.book());
        wrongAt(c, "FORMULA", "a1".repeat(59) + "a(", 119, x -> x.book());
        wrongAt(c, "CHANGES", " ".repeat(119) + "-", 120, x -> x.change(0));
        wrongAt(c, "CHANGES", "-a1,".repeat(30), 120, x -> x.change(0));
        wrongAt(c, "ROW", " ".repeat(117) + "a1-", 120, x -> x.copy(0));
        wrongAt(c, "ROW", "a1".repeat(59) + "a-", 119, x -> x.copy(0));
        wrongAt(c, "NAME", " ".repeat(117) + "a1+", 120, x -> x.find(0));
        wrongAt(c, "NAME", "a1" + " ".repeat(117) + "b", 119, x -> x.find(0));
        // the latest bytes of a longer text do not count when the TAPE was cut
        Subject x = Checks.tape(new Subject(), "a8 b8 c");
        c.taken("promise 3: end(5)", x, x.end(5), 5);
        c.taken("promise 4: book of what is kept", x, x.book(), 0);
        c.due("promise 4: WRITTEN", Checks.written(x, 0), "a-b8");
        Checks.tape(x, "c12");
        c.taken("promise 3: a NUMBER cut short", x, x.end(2), 2);
        c.taken("promise 4: book of it", x, x.book(), 1);
        c.due("promise 4: WRITTEN", Checks.written(x, 1), "c1");
        Checks.tape(x, "aab8");
        c.taken("promise 3: a WORD cut short", x, x.end(2), 2);
        c.refused("promise 4: book of it", x, x.book(), 2);
        c.due("promise 8: it lacks behind what is kept", x.place(), 2);
    }

    /** Each of the twenty bytes of a feed comes to its place, whatever its highest bit is. */
    private static void feeds(Checks c) {
        for (int at = 0; at < 20; at++) {
            for (int b : new int[] {1, 127, 128, 255}) {
                int[] words = {0x20202020, 0x20202020, 0x20202020, 0x20202020, 0x20202020};
                int shift = 24 - at % 4 * 8;
                words[at / 4] = words[at / 4] & ~(255 << shift) | b << shift;
                for (int ahead = 0; ahead < 6; ahead++) {
                    Subject x = Checks.tape(new Subject(), " ".repeat(20 * ahead));
                    String what = "promise 2: byte " + at + " behind " + ahead + " feeds is " + b;
                    c.taken(what, x, x.feed(words[0], words[1], words[2], words[3], words[4]), 20 * ahead + 20);
                    c.refused(what, x, x.book(), 2);
                    c.due(what + ", place()", x.place(), 20 * ahead + at);
                }
            }
        }
        Subject x = new Subject();
        Checks.tape(x, "pi12(-pi3,=pi4) a1 b");
        c.taken("promise 2: a PIECE across two feeds", x, x.feed('b' << 24 | 'b' << 16 | '1' << 8 | '0', 0x20202020, 0x20202020,
            0x20202020, 0x20202020), 40);
        c.taken("promise 4: book of both", x, x.book(), 0);
        c.due("promise 4: WRITTEN", Checks.written(x, 0), "pi12(-pi3,=pi4) a1 bbb10");
    }
}

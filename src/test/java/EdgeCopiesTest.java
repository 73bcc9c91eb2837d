import java.util.ArrayList;
import java.util.List;

/** Terms 4, edge by edge: ROWS and their FAULT, room, MISSING, DOUBLED, STRAY and LOOSE ones, NOTES, two COPIES. */
public final class EdgeCopiesTest {
    /** Its LEAVES are, by PLACES: a1, a2+1, a2+2, a3, a4, c1, chi2, chi2+1. */
    private static final String BOOK = "a4(-a2,a2+2,=a3) c1 chi2(-chi1,chi2+1)";
    private static final String[] NAMES = {"a1", "a2+1", "a2+2", "a3", "a4", "c1", "chi2", "chi2+1"};

    public static void main(String[] args) {
        Checks c = new Checks("EdgeCopiesTest");
        names(c);
        noNames(c);
        pairsOfNames(c);
        mostEntries(c);
        mostCopies(c);
        times(c);
        allRests(c);
        loose(c);
        notes(c);
        runs(c);
        longNote(c);
        setsOfTwo(c);
        together(c);
        notOfOneBook(c);
        c.finish();
    }

    private static Subject with(String book) {
        Subject x = new Subject();
        Checks.book(x, book);
        return x;
    }

    private static Subject copyOf(Checks c, String book, String row) {
        Subject x = with(book);
        c.taken("promise 6: '" + row + "'", x, Checks.copy(x, 0, row), 0);
        return x;
    }

    /** Each LEAF by its NAME, alone and behind another, and no other NAMES. */
    private static void names(Checks c) {
        for (int place = 0; place < NAMES.length; place++) {
            Subject x = with(BOOK);
            c.taken("promise 7: " + NAMES[place], x, Checks.find(x, 0, NAMES[place]), place);
            c.due("promise 16: " + NAMES[place], Checks.name(x, 0, place), NAMES[place]);
            c.taken("promise 6: " + NAMES[place], x, Checks.copy(x, 0, NAMES[place]), 0);
            c.taken("promise 22: " + NAMES[place], x, x.entry(0, 0), place);
            c.refused("promise 22: behind it", x, x.entry(0, 1), 1);
            c.taken("promise 21: one ENTRY", x, x.state(0, 1), 1);
            c.taken("promise 6: behind another", x, Checks.copy(x, 0, "c1 " + NAMES[place]), 1);
            c.taken("promise 22: behind another", x, x.entry(1, 1), place);
        }
    }

    private static void noNames(Checks c) {
        String[] none = {"a0", "a2", "a5", "a999", "a1+1", "a1+0", "a2+0", "a2+3", "a2+4", "a2+5", "a3+1", "a5+1", "a0+1", "b1",
            "c0", "c2", "c1+1", "chi0", "chi1", "chi3", "chi1+1", "chi2+0", "chi2+2", "chi2+999", "pi1", "pi1+1", "aa1", "zzz12"};
        for (String name : none) {
            Subject x = with(BOOK);
            c.taken("promise 7: '" + name + "'", x, Checks.find(x, 0, name), -1);
            c.due("promise 9: a NAME has no FAULT", x.fault(), 0);
            for (String row : new String[] {name, "a1 " + name, name + " a1", "a1-" + name, name + "-chi2+1", "a1-a4 c1 " + name}) {
                c.refused("promise 6: '" + row + "'", x, Checks.copy(x, 0, row), 4);
                c.due("promise 9: '" + row + "'", x.fault(), 7);
                c.due("promise 8: '" + row + "'", x.place(), LeafFormula.BAD);
            }
            c.due("promise 10: no COPY", x.count(1), 0);
        }
        Subject x = with("a2(-a1,-a2)");
        c.refused("promise 6: of a BOOK without LEAVES", x, Checks.copy(x, 0, "a1"), 4);
        c.taken("promise 7: of a BOOK without LEAVES", x, Checks.find(x, 0, "a2"), -1);
        c.refused("promise 16: of a BOOK without LEAVES", x, x.name(0, 0, 0), 1);
    }

    /** NAME - NAME, each pair: the second has to stand behind the first. */
    private static void pairsOfNames(Checks c) {
        for (int one = 0; one < NAMES.length; one++) {
            for (int other = 0; other < NAMES.length; other++) {
                Subject x = with(BOOK);
                String row = "chi2 " + NAMES[one] + "-" + NAMES[other] + " a1";
                int got = Checks.copy(x, 0, row);
                if (other <= one) {
                    c.refused("promise 6: '" + row + "'", x, got, 4);
                    c.due("promise 9: '" + row + "'", x.fault(), 7);
                    continue;
                }
                c.taken("promise 6: '" + row + "'", x, got, 0);
                StringBuilder due = new StringBuilder("6");
                for (int place = one; place <= other; place++) {
                    due.append(' ').append(place);
                }
                c.due("promise 22: '" + row + "'", Checks.entries(x, 0), due + " 0");
            }
        }
    }

    /** 400 ENTRIES at most, behind the FAULT. */
    private static void mostEntries(Checks c) {
        String[] rows = {"a1-ll4", "a1-ll3 a1", "a1 a1-ll3", "b1-ll4 a1-a12", "a1-ll2 a1 a1", "a1-ll3 a1-a2", "a1-ll4 a1", "a1 a1-ll4",
            "a1-ll4 a1-ll4", "a1-ll4 a1-ll4 a1-ll4 a1-ll4 a1-ll4 a1-ll4 a1-ll4 a1-ll4 a1-ll4 a1-ll4 a1-ll4 a1-ll4 a1-ll4"};
        int[] entries = {400, 400, 400, 400, 400, 401, 401, 401, 800, 5200};
        for (int r = 0; r < rows.length; r++) {
            Subject x = with("a-kk12 ll4");
            int got = Checks.copy(x, 0, rows[r]);
            if (entries[r] > 400) {
                c.refused("promise 6: '" + rows[r] + "'", x, got, 9);
                c.due("promise 6: the TAPE is empty", x.count(2), 0);
                c.due("promise 9: 9 is no FAULT", x.fault(), 0);
                c.due("promise 8: nor is the text WRONG", x.place(), LeafFormula.BAD);
                c.due("promise 10: no COPY", x.count(1), 0);
                c.refused("promise 6: FAULT ahead of 9", x, Checks.copy(x, 0, rows[r] + " ll5"), 4);
                c.due("promise 9: FAULT ahead of 9", x.fault(), 7);
                c.refused("promise 6: FAULT ahead of 9", x, Checks.copy(x, 0, "a1-a1 " + rows[r]), 4);
                c.refused("promise 6: WRONG ahead of 9", x, Checks.copy(x, 0, rows[r] + ","), 2);
                c.refused("promise 6: no BOOK ahead of 9", x, Checks.copy(x, 1, rows[r]), 1);
                c.taken("promise 6: 400 behind a refused one", x, Checks.copy(x, 0, "a1-ll4"), 0);
                c.taken("promise 21: 400 behind a refused one", x, x.state(0, 1), 400);
            } else {
                c.taken("promise 6: '" + rows[r] + "'", x, got, 0);
                c.taken("promise 21: '" + rows[r] + "'", x, x.state(0, 1), 400);
                c.taken("promise 22: the last one", x, x.entry(0, 399) >= 0 ? 0 : -1, 0);
                c.refused("promise 22: behind the last one", x, x.entry(0, 400), 1);
            }
        }
        Subject x = with("a-kk12 ll4");
        Checks.copy(x, 0, "a1-s6");
        Checks.copy(x, 0, "s7-ll4");
        c.taken("promise 25: halves are apart in all", x, x.apart(0, 1), 400);
        c.taken("promise 26: 400 together", x, x.together(0, 1), 2);
        c.due("promise 21: 400 together", x.state(2, 1), 400);
        c.due("promise 24: nothing to tell of them", Checks.note(x, 2), "");
    }

    /** 16 COPIES at most, by copy() and by together(). */
    private static void mostCopies(Checks c) {
        Subject x = with(BOOK);
        for (int i = 0; i < 16; i++) {
            c.taken("Terms 4: COPY " + i, x, i % 2 == 0 ? Checks.copy(x, 0, NAMES[i / 2]) : x.together(i - 1, 0), i);
            c.due("promise 10: COPIES", x.count(1), i + 1);
        }
        for (int again = 0; again < 2; again++) {
            c.refused("promise 6: the 17th COPY", x, Checks.copy(x, 0, "a1"), 9);
            c.due("promise 6: the TAPE is empty", x.count(2), 0);
            c.due("promise 9: 9 is no FAULT", x.fault(), 0);
            c.refused("promise 26: the 17th COPY", x, x.together(0, 1), 9);
            c.due("promise 10: COPIES", x.count(1), 16);
        }
        c.refused("promise 6: FAULT ahead of 9", x, Checks.copy(x, 0, "a2"), 4);
        c.refused("promise 6: WRONG ahead of 9", x, Checks.copy(x, 0, "a2,"), 2);
        c.refused("promise 6: 1 ahead of 9", x, Checks.copy(x, 1, "a2,"), 1);
        c.refused("promise 26: 1 ahead of 9", x, x.together(16, 0), 1);
        c.refused("promise 26: 1 ahead of 9", x, x.together(0, 16), 1);
        c.taken("promise 21: the last COPY", x, x.state(15, 1), 2);
        c.taken("promise 22: the last COPY", x, x.entry(15, 1), 7);
        c.taken("promise 22: the first COPY", x, x.entry(0, 0), 0);
    }

    /** No ENTRY, one, two, three: at the first, an inner and the last PLACE. */
    private static void times(Checks c) {
        for (int place : new int[] {0, 3, 7}) {
            for (int many = 0; many < 4; many++) {
                StringBuilder row = new StringBuilder();
                for (int other = 0; other < NAMES.length; other++) {
                    row.append(NAMES[other].repeat(other == place ? many : 1));
                }
                Subject x = copyOf(c, BOOK, row.toString());
                String what = NAMES[place] + " stands " + many + " times: ";
                c.due("promise 21: MISSING, " + what, x.state(0, 2), many == 0 ? 1 : 0);
                c.due("promise 21: DOUBLED, " + what, x.state(0, 3), many >= 2 ? 1 : 0);
                c.due("promise 21: STRAY, " + what, x.state(0, 4), Math.max(0, many - 1));
                c.due("promise 23: MISSING, " + what, Checks.told(x, 0, 2), many == 0 ? "" + place : "");
                c.due("promise 23: DOUBLED, " + what, Checks.told(x, 0, 3), many >= 2 ? "" + place : "");
                String stray = many == 3 ? place + 1 + " " + (place + 2) : many == 2 ? place + 1 + "" : "";
                c.due("promise 23: STRAY, " + what, Checks.told(x, 0, 4), stray);
                for (int kind = 2; kind < 6; kind++) {
                    c.refused("promise 23: behind the last, " + what, x, x.told(0, kind, x.state(0, kind)), 1);
                }
            }
        }
    }

    /** All rows of up to six ENTRIES of four LEAVES, against all ways to choose some of them. */
    private static void allRests(Checks c) {
        for (int length = 1; length <= 6; length++) {
            for (int code = 0; code < 1 << 2 * length; code++) {
                int[] places = new int[length];
                StringBuilder row = new StringBuilder();
                for (int e = 0; e < length; e++) {
                    places[e] = code >> 2 * e & 3;
                    row.append("a").append(places[e] + 1);
                }
                Subject x = with("a4");
                Checks.copy(x, 0, row.toString());
                c.due("Terms 4: STRAY of '" + row + "'", Checks.told(x, 0, 4), strays(places));
            }
        }
    }

    private static String strays(int[] places) {
        List<Integer> best = new ArrayList<>();
        for (int set = 0; set < 1 << places.length; set++) {
            List<Integer> chosen = new ArrayList<>();
            boolean rising = true;
            for (int e = 0; e < places.length; e++) {
                if ((set >> e & 1) == 1) {
                    rising &= chosen.isEmpty() || places[chosen.get(chosen.size() - 1)] < places[e];
                    chosen.add(e);
                }
            }
            if (rising && (chosen.size() > best.size() || chosen.size() == best.size() && isAhead(chosen, best))) {
                best = chosen;
            }
        }
        StringBuilder text = new StringBuilder();
        for (int e = 0; e < places.length; e++) {
            text.append(best.contains(e) ? "" : text.length() > 0 ? " " + e : "" + e);
        }
        return text.toString();
    }

    private static boolean isAhead(List<Integer> one, List<Integer> other) {
        for (int i = 0; i < one.size(); i++) {
            if (!one.get(i).equals(other.get(i))) {
                return one.get(i) < other.get(i);
            }
        }
        return false;
    }

    /** An ENTRY whose CONJUGATE is MISSING, once each; who has no CONJUGATE is not LOOSE. */
    private static void loose(Checks c) {
        String[][] due = {
            {"a4", "a1", "0"}, {"a4", "a4", "3"}, {"a4", "a1 a4", ""}, {"a4", "a1 a2", "0 1"}, {"a4", "a1 a1 a1", "0"},
            {"a4", "a4 a1 a2", "1"}, {"a4", "a1-a4", ""}, {"a4", "a3 a1", "0 2"}, {"a1", "a1", ""}, {"a2", "a1", "0"},
            {"a2(-a2)", "a1", ""}, {"a2(=a2)", "a1", ""}, {"a2(=a1)", "a1", ""}, {"a2(a1+1)", "a1", "0"}, {"a2(a2+1)", "a2+1", ""},
            {"a2(a2+1)", "a1 a2+1", "0"}, {"a2 b2", "a1 b2", "0 3"}, {"a2 b2", "a1 b1", "0 2"}, {"a4(-a1)", "a4 a2", "0"},
            {"a4(=a1)", "a4 a1 a3", "2"},
        };
        for (String[] row : due) {
            Subject x = copyOf(c, row[0], row[1]);
            c.due("promise 23: LOOSE LEAVES of '" + row[1] + "' of '" + row[0] + "'", Checks.told(x, 0, 5), row[2]);
            c.due("promise 21: how many", x.state(0, 5), row[2].isEmpty() ? 0 : row[2].split(" ").length);
        }
    }

    /** Each set of parts that a NOTE can have; DOUBLED LEAVES are never without STRAY ENTRIES. */
    private static void notes(Checks c) {
        String[][] due = {
            {"a1-chi2+1", ""}, {"a1-chi2", "lacks chi2+1"}, {"a2+1-chi2+1", "lacks a1"}, {"c1-chi2+1 a1-a4", "moved c1, chi2, chi2+1"},
            {"a1-chi2+1 c1", "twice c1; moved c1"}, {"chi2 a1-a4", "lacks c1, chi2+1; moved chi2"},
            {"a1-a4 chi2 chi2", "lacks c1, chi2+1; twice chi2; moved chi2"},
            {"a2+1", "lacks a1, a2+2-chi2+1"}, {"a1 a1", "lacks a2+1-chi2+1; twice a1; moved a1"},
            {"a1-chi2+1 a1-chi2+1", "twice a1-chi2+1; moved a1, a2+1, a2+2, a3, a4, c1, chi2, chi2+1"},
        };
        for (String[] row : due) {
            Subject x = copyOf(c, BOOK, row[0]);
            c.due("promise 24: NOTE of '" + row[0] + "'", Checks.note(x, 0), row[1]);
            c.refused("promise 24: ahead of '" + row[1] + "'", x, x.note(0, -1), 1);
            c.refused("promise 24: behind '" + row[1] + "'", x, x.note(0, row[1].length()), 1);
            if (!row[1].isEmpty()) {
                c.taken("promise 24: the first of '" + row[1] + "'", x, x.note(0, 0), row[1].charAt(0));
                c.taken("promise 24: the last of '" + row[1] + "'", x, x.note(0, row[1].length() - 1), row[1].charAt(row[1].length() - 1));
            }
        }
    }

    /** RUNS of one, two and more, across GATHERINGS, at both ends, of MISSING and of DOUBLED ones. */
    private static void runs(Checks c) {
        String[][] due = {
            {"a2-b4", "a1"}, {"a3-b4", "a1-a2"}, {"a4-b4", "a1-a3"}, {"a1-b3", "b4"}, {"a1-b2", "b3-b4"}, {"a1-a3 b2-b4", "a4-b1"},
            {"a1-a3 b1-b4", "a4"}, {"a1-a2 a4-b4", "a3"}, {"a1 a3 b1 b3", "a2, a4, b2, b4"}, {"a2 a4 b2 b4", "a1, a3, b1, b3"},
            {"a1 b4", "a2-b3"}, {"a3 a4", "a1-a2, b1-b4"}, {"a3", "a1-a2, a4-b4"}, {"b4", "a1-b3"}, {"a1", "a2-b4"}, {"a2 a3 b1", "a1, a4, b2-b4"},
        };
        for (String[] row : due) {
            Subject x = copyOf(c, "a-b4", row[0]);
            c.due("promise 24: RUNS that '" + row[0] + "' lacks", Checks.note(x, 0), "lacks " + row[1]);
        }
        String[][] twice = {
            {"a1", "a1"}, {"a1 a2", "a1-a2"}, {"a1-a3", "a1-a3"}, {"a1 a3", "a1, a3"}, {"b4", "b4"}, {"b3 b4", "b3-b4"},
            {"a4 b1", "a4-b1"}, {"a2 a4-b2 b4", "a2, a4-b2, b4"}, {"b1 a4", "a4-b1"},
        };
        for (String[] row : twice) {
            Subject x = copyOf(c, "a-b4", "a1-b4 " + row[0]);
            String note = Checks.note(x, 0);
            c.due("promise 24: RUNS that stand twice by '" + row[0] + "'", note.substring(0, note.indexOf(';')), "twice " + row[1]);
        }
    }

    /** Of a NOTE of hundreds of bytes all that 512 calls can read. */
    private static void longNote(Checks c) {
        Subject x = copyOf(c, "a-kk12 ll4", "b1-ll4 a1-a12");
        StringBuilder due = new StringBuilder("moved a1");
        for (int i = 2; i <= 12; i++) {
            due.append(", a").append(i);
        }
        c.due("promise 24: the lesser part is STRAY", Checks.note(x, 0), due.toString());
        Subject y = copyOf(c, "aaa-zzz12", "zzz1-zzz12 yyy1-yyy12 xxx1-xxx12 vvv1-vvv12 ttt1-ttt12");
        String note = Checks.note(y, 0);
        c.due("promise 24: where it begins", note.substring(0, 30), "lacks aaa1-sss12; moved yyy1, ");
        c.due("promise 24: how it ends", note.substring(note.length() - 13), " ttt11, ttt12");
    }

    /** All pairs of sets of three LEAVES that are not empty. */
    private static void setsOfTwo(Checks c) {
        for (int one = 1; one < 8; one++) {
            for (int other = 1; other < 8; other++) {
                Subject x = with("a4");
                Checks.copy(x, 0, row(one) + row(one));
                Checks.copy(x, 0, row(other));
                c.taken("promise 25: apart of " + one + " and " + other, x, x.apart(0, 1), Integer.bitCount(one ^ other));
                c.taken("promise 25: apart of " + other + " and " + one, x, x.apart(1, 0), Integer.bitCount(one ^ other));
                c.taken("promise 26: together of " + one + " and " + other, x, x.together(0, 1), 2);
                c.taken("promise 26: together of " + other + " and " + one, x, x.together(1, 0), 3);
                String due = entries(one | other);
                c.due("promise 26: ENTRIES of " + one + " and " + other, Checks.entries(x, 2), due);
                c.due("promise 26: ENTRIES of " + other + " and " + one, Checks.entries(x, 3), due);
                c.due("promise 26: none DOUBLED, none STRAY", x.state(2, 3) + x.state(2, 4), 0);
                c.due("promise 22: the old COPY stays", x.state(0, 1), 2 * Integer.bitCount(one));
            }
        }
    }

    /** The LEAVES of a set, the last one ahead. */
    private static String row(int set) {
        return ((set & 4) != 0 ? "a3" : "") + ((set & 2) != 0 ? "a2" : "") + ((set & 1) != 0 ? "a1" : "");
    }

    private static String entries(int set) {
        return (((set & 1) != 0 ? "0 " : "") + ((set & 2) != 0 ? "1 " : "") + ((set & 4) != 0 ? "2 " : "")).trim();
    }

    private static void together(Checks c) {
        Subject x = with("a2");
        Checks.book(x, BOOK);
        Checks.copy(x, 1, "chi2+1 chi2+1 a1");
        Checks.copy(x, 1, "a4 a2+2 a1");
        Checks.tape(x, "b");
        c.refused("promise 4: WRONG", x, x.book(), 2);
        Checks.tape(x, "a8 b8");
        c.taken("promise 26: together", x, x.together(0, 1), 2);
        c.due("promise 26: its BOOK", x.state(2, 0), 1);
        c.due("promise 26: its NOTE", Checks.note(x, 2), "lacks a2+1, a3, c1-chi2");
        c.due("promise 8: it reads no text", x.place(), 1);
        c.due("promise 2: the TAPE stays", x.count(2), 5);
        c.taken("promise 26: of what was made so", x, x.together(2, 0), 3);
        c.due("promise 26: the same again", Checks.entries(x, 3), Checks.entries(x, 2));
    }

    /** Two BOOKS that are WRITTEN the same are two. */
    private static void notOfOneBook(Checks c) {
        Subject x = with("a4");
        Checks.book(x, "a4");
        Checks.change(x, 0, "-a4");
        c.due("promise 17: WRITTEN the same", x.same(0, 1), 1);
        for (int book = 0; book < 3; book++) {
            c.taken("promise 6: of BOOK " + book, x, Checks.copy(x, book, "a1"), book);
        }
        for (int one = 0; one < 3; one++) {
            for (int other = 0; other < 3; other++) {
                if (one != other) {
                    c.refused("promise 25: " + one + " and " + other, x, x.apart(one, other), 4);
                    c.refused("promise 26: " + one + " and " + other, x, x.together(one, other), 4);
                }
            }
        }
        c.due("promise 10: COPIES", x.count(1), 3);
        c.due("promise 9: that 4 is no FAULT of a text", x.fault(), 0);
    }
}

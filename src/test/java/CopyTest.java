/** Promises 6, 7 and 21 to 26: ROWS, NAMES, COPIES, NOTES, and what two COPIES make. */
public final class CopyTest {
    public static void main(String[] args) {
        Checks c = new Checks("CopyTest");
        wrongRows(c);
        faults(c);
        room(c);
        longTexts(c);
        finding(c);
        states(c);
        rests(c);
        notes(c);
        refusals(c);
        pairs(c);
        pairRefusals(c);
        c.finish();
    }

    private static Subject sample() {
        Subject x = new Subject();
        Checks.book(x, "a-b4(-a2,a2+2,b4+1)");
        return x;
    }

    private static void wrongRows(Checks c) {
        String[] texts = {"", " ", "a", "a1+", "a1-", "a1 - ", "a1-b", "a1-b1-b2", "a1,b1", "a1 1", "-a1", "a1+1+1", "a1 (",
            "a1 b1 j1", "a1000", "a1=", "a1+1 - + 1"};
        int[] places = {0, 1, 1, 3, 3, 5, 4, 5, 2, 3, 0, 4, 3, 6, 1, 2, 7};
        for (int i = 0; i < texts.length; i++) {
            Subject x = sample();
            c.refused("promise 6: copy of '" + texts[i] + "'", x, Checks.copy(x, 0, texts[i]), 2);
            c.due("promise 8: place() behind '" + texts[i] + "'", x.place(), places[i]);
            c.due("promise 9: fault() behind '" + texts[i] + "'", x.fault(), 0);
            c.due("promise 6: COPIES behind '" + texts[i] + "'", x.count(1), 0);
            c.due("promise 6: TAPE behind '" + texts[i] + "'", x.count(2), 0);
        }
    }

    private static void faults(Checks c) {
        String[] texts = {"a2", "a5", "a0", "c1", "pi1", "a2+0", "a2+3", "a1+1", "a1-a1", "a3-a1", "a2+2-a2+1", "a1-a2",
            "a2-a3", "a1 a1-b4 b5", "b1-a4", "b4+1-b4"};
        for (String text : texts) {
            Subject x = sample();
            c.refused("promise 6: copy of '" + text + "'", x, Checks.copy(x, 0, text), 4);
            c.due("promise 9: fault() behind '" + text + "'", x.fault(), 7);
            c.due("promise 8: place() behind '" + text + "'", x.place(), LeafFormula.BAD);
            c.due("promise 6: COPIES behind '" + text + "'", x.count(1), 0);
            c.due("promise 6: TAPE behind '" + text + "'", x.count(2), 0);
        }
        String[] right = {"a1", "a2+1-a2+2", "a1-b4+1", "a2+2-a3", " a 01 - a 2 + 1 b4+1a1", "b4-b4+1"};
        String[] entries = {"0", "1 2", "0 1 2 3 4 5 6 7 8 9", "2 3", "0 1 9 0", "8 9"};
        for (int i = 0; i < right.length; i++) {
            Subject x = sample();
            c.taken("promise 6: copy of '" + right[i] + "'", x, Checks.copy(x, 0, right[i]), 0);
            c.due("promise 22: ENTRIES of '" + right[i] + "'", Checks.entries(x, 0), entries[i]);
            c.due("promise 9: fault() behind '" + right[i] + "'", x.fault(), 0);
            c.due("promise 6: TAPE behind '" + right[i] + "'", x.count(2), 0);
        }
    }

    private static void room(Checks c) {
        Subject x = new Subject();
        Checks.book(x, "a-kk12 ll4");
        c.taken("promise 6: 400 ENTRIES", x, Checks.copy(x, 0, "a1-ll4"), 0);
        c.taken("promise 6: 400 in two ITEMS", x, Checks.copy(x, 0, "b1-ll4 a1-a12"), 1);
        c.due("promise 21: how many", x.state(1, 1), 400);
        c.due("promise 21: STRAY ones", x.state(1, 4), 12);
        c.refused("promise 6: 401 ENTRIES", x, Checks.copy(x, 0, "a1-ll4 a1"), 9);
        c.due("promise 9: 9 is no FAULT", x.fault(), 0);
        c.due("promise 6: the TAPE is empty behind a 9", x.count(2), 0);
        c.refused("promise 6: by far too many", x, Checks.copy(x, 0, "a1-ll4 a1-ll4 a1-ll4 a1-ll4"), 9);
        c.refused("promise 6: FAULT ahead of 9", x, Checks.copy(x, 0, "a1-ll4 a1-ll4 a1-a1"), 4);
        c.refused("promise 6: 2 ahead of 9", x, Checks.copy(x, 0, "a1-ll4 a1-ll4 a1-"), 2);
        for (int i = 2; i < 16; i++) {
            c.taken("promise 6: COPY " + i, x, Checks.copy(x, 0, "a1"), i);
        }
        c.refused("promise 6: the 17th COPY", x, Checks.copy(x, 0, "a1"), 9);
        c.refused("promise 26: the 17th COPY", x, x.together(2, 3), 9);
        c.refused("promise 6: 1 ahead of 9", x, Checks.copy(x, 1, "a1"), 1);
        c.refused("promise 6: 2 ahead of 9", x, Checks.copy(x, 0, "a"), 2);
        c.refused("promise 6: 4 ahead of 9", x, Checks.copy(x, 0, "a13"), 4);
        c.due("promise 10: 16 COPIES", x.count(1), 16);
        Checks.book(x, "a8");
        c.refused("promise 26: 1 ahead of 9", x, x.together(0, 16), 1);
    }

    private static void longTexts(Checks c) {
        Subject x = sample();
        c.taken("promise 6: 60 ENTRIES of 120 PIECES", x, Checks.copy(x, 0, "a1".repeat(60)), 0);
        c.due("promise 21: how many", x.state(0, 1), 60);
        c.due("promise 21: STRAY ones", x.state(0, 4), 59);
        c.refused("promise 6: a last one without its i", x, Checks.copy(x, 0, "a1".repeat(59) + "a "), 2);
        c.due("promise 8: it lacks at the TAPE's length", x.place(), 120);
        Subject y = new Subject();
        Checks.book(y, "pi2(-pi1,pi1+2) chi12(-chi12,chi12+1)");
        c.taken("promise 7: behind a CUT first one", y, Checks.find(y, 0, "pi1+2"), 1);
        c.taken("promise 7: behind a CUT last one", y, Checks.find(y, 0, "chi12+1"), 14);
        c.taken("promise 7: the CUT first one", y, Checks.find(y, 0, "pi1"), -1);
        c.taken("promise 7: the CUT last one", y, Checks.find(y, 0, "chi12"), -1);
        Checks.book(y, "pi2");
        c.taken("promise 7: the first one", y, Checks.find(y, 1, "pi1"), 0);
    }

    private static void finding(Checks c) {
        Subject x = sample();
        String[] names = {"a1", "a2", "a2+1", "a2+2", "a3", " b 4 + 01 ", "b4", "b5", "b0", "c1", "chi1", "a1+0", "a2+3",
            "a2+0", "a2+999", "a999"};
        int[] places = {0, -1, 1, 2, 3, 9, 8, -1, -1, -1, -1, -1, -1, -1, -1, -1};
        for (int i = 0; i < names.length; i++) {
            c.taken("promise 7: find '" + names[i] + "'", x, Checks.find(x, 0, names[i]), places[i]);
            c.due("promise 9: fault() behind '" + names[i] + "'", x.fault(), 0);
            c.due("promise 8: place() behind '" + names[i] + "'", x.place(), LeafFormula.BAD);
            c.due("promise 7: TAPE behind '" + names[i] + "'", x.count(2), 0);
        }
        String[] wrong = {"", "a", "a1 a2", "a1-a3", "a1+", "a1,", "1", "a1+1+", "a01 1", "aj1", "a1+1000"};
        int[] at = {0, 1, 3, 2, 3, 2, 0, 4, 4, 0, 3};
        for (int i = 0; i < wrong.length; i++) {
            c.refused("promise 7: find '" + wrong[i] + "'", x, Checks.find(x, 0, wrong[i]), 2);
            c.due("promise 8: place() behind '" + wrong[i] + "'", x.place(), at[i]);
            c.due("promise 7: TAPE behind '" + wrong[i] + "'", x.count(2), 0);
        }
        c.refused("promise 7: no such BOOK", x, Checks.find(x, 1, "a"), 1);
    }

    private static void states(Checks c) {
        Subject x = new Subject();
        Checks.book(x, "a4");
        Checks.book(x, "a8(=a2) b4 c1 d2(-d1)");
        Checks.copy(x, 1, "a1-a3 b1 b1 c1 b1 d2 a6 a7");
        int[] due = {1, 10, 6, 1, 4, 2};
        String[] told = {"", "", "3 4 7 9 10 11", "8", "4 6 8 9", "0 8"};
        for (int what = 0; what < 6; what++) {
            c.taken("promise 21: state(0, " + what + ")", x, x.state(0, what), due[what]);
        }
        for (int what = 2; what < 6; what++) {
            c.due("promise 23: told " + what, Checks.told(x, 0, what), told[what]);
        }
        c.due("promise 22: ENTRIES", Checks.entries(x, 0), "0 1 2 8 8 12 8 13 5 6");
    }

    /** Of several longest rows the one with the lesser numbers. */
    private static void rests(Checks c) {
        String[] rows = {"a1 a2 a3", "a3 a2 a1", "a1 a1", "a2 a1 a3", "a2 a3 a1", "a1 a3 a2 a4", "a4 a1 a2 a3 a4 a1",
            "a3 a4 a1 a2", "a1 a4 a2 a3", "a2 a1 a4 a3", "a1 a2 a1 a2 a3", "a5 a6 a1 a2 a7 a8 a3 a4", "a1 a3 a3 a2 a2"};
        String[] strays = {"", "1 2", "1", "1", "2", "2", "0 5", "2 3", "1", "1 3", "2 3", "2 3 6 7", "2 3 4"};
        for (int i = 0; i < rows.length; i++) {
            Subject x = new Subject();
            Checks.book(x, "a8");
            Checks.copy(x, 0, rows[i]);
            c.due("promise 23: STRAY ENTRIES of '" + rows[i] + "'", Checks.told(x, 0, 4), strays[i]);
        }
    }

    private static void notes(Checks c) {
        String[] rows = {"a1-b4+1", "a1-b4", "b4+1", "a1-b4+1 a1", "a1-a3 b1-b4", "a2+1-a4 b2 b4 b4+1 a2+2 a3 b4 b4 a1",
            "b1 a1-a4 b2-b4+1", "a1 a4 b1-b4+1"};
        String[] due = {"", "lacks b4+1", "lacks a1-b4", "twice a1; moved a1", "lacks a4, b4+1",
            "lacks b1, b3; twice a2+2-a3, b4; moved a2+2, a3, b4, b4, a1", "moved b1", "lacks a2+1-a3"};
        for (int i = 0; i < rows.length; i++) {
            Subject x = sample();
            Checks.copy(x, 0, rows[i]);
            c.due("promise 24: NOTE of '" + rows[i] + "'", Checks.note(x, 0), due[i]);
            for (int k = 0; k < due[i].length(); k++) {
                c.taken("promise 24: note(0, " + k + ")", x, x.note(0, k), due[i].charAt(k));
            }
            c.refused("promise 24: behind the NOTE", x, x.note(0, due[i].length()), 1);
            c.refused("promise 24: ahead of it", x, x.note(0, -1), 1);
        }
    }

    private static void refusals(Checks c) {
        Subject x = sample();
        Checks.copy(x, 0, "a1 b1 a1");
        c.refused("promise 21: what 6", x, x.state(0, 6), 3);
        c.refused("promise 21: what -1", x, x.state(0, -1), 3);
        c.refused("promise 21: copy 1", x, x.state(1, 6), 1);
        c.refused("promise 21: copy -1", x, x.state(-1, 0), 1);
        c.refused("promise 22: entry 3", x, x.entry(0, 3), 1);
        c.refused("promise 22: entry -1", x, x.entry(0, -1), 1);
        c.refused("promise 22: copy 1", x, x.entry(1, 0), 1);
        c.taken("promise 22: entry 2", x, x.entry(0, 2), 0);
        for (int what : new int[] {-1, 0, 1, 6, 7}) {
            c.refused("promise 23: what " + what, x, x.told(0, what, 0), 3);
            c.refused("promise 23: 3 ahead of k", x, x.told(0, what, -1), 3);
            c.refused("promise 23: 1 of the COPY ahead of 3", x, x.told(1, what, 0), 1);
        }
        for (int what = 2; what < 6; what++) {
            c.refused("promise 23: k behind the last", x, x.told(0, what, x.state(0, what)), 1);
            c.refused("promise 23: k -1", x, x.told(0, what, -1), 1);
            c.refused("promise 23: copy -1", x, x.told(-1, what, 0), 1);
        }
        c.refused("promise 24: copy 1", x, x.note(1, 0), 1);
        c.refused("promise 24: copy -1", x, x.note(-1, 0), 1);
    }

    private static void pairs(Checks c) {
        Subject x = sample();
        Checks.copy(x, 0, "a4 a1 a1 b4-b4+1");
        Checks.copy(x, 0, "b4 b1 a1");
        c.taken("promise 25: apart", x, x.apart(0, 1), 3);
        c.taken("promise 25: the other way", x, x.apart(1, 0), 3);
        c.taken("promise 25: with itself", x, x.apart(0, 0), 0);
        c.taken("promise 26: together", x, x.together(0, 1), 2);
        c.due("promise 26: ENTRIES", Checks.entries(x, 2), "0 4 5 8 9");
        c.due("promise 26: its BOOK", x.state(2, 0), 0);
        c.due("promise 26: NOTE", Checks.note(x, 2), "lacks a2+1-a3, b2-b3");
        c.due("promise 26: LOOSE ones", Checks.told(x, 2, 5), "");
        c.taken("promise 26: with itself", x, x.together(0, 0), 3);
        c.due("promise 26: each once", Checks.entries(x, 3), "0 4 8 9");
        c.due("promise 26: LOOSE ones", Checks.told(x, 3, 5), "8");
        c.taken("promise 25: of new ones", x, x.apart(2, 3), 1);
        c.due("promise 22: the old ones stay", Checks.entries(x, 0), "4 0 0 8 9");
    }

    private static void pairRefusals(Checks c) {
        Subject x = sample();
        Checks.book(x, "a-b4(-a2,a2+2,b4+1)");
        Checks.copy(x, 0, "a1");
        Checks.copy(x, 1, "a1");
        c.refused("promise 25: not of one BOOK", x, x.apart(0, 1), 4);
        c.due("promise 9: no text was read by it", x.fault(), 0);
        c.refused("promise 26: not of one BOOK", x, x.together(0, 1), 4);
        c.refused("promise 25: apart(0, 2)", x, x.apart(0, 2), 1);
        c.refused("promise 25: apart(2, 0)", x, x.apart(2, 0), 1);
        c.refused("promise 25: apart(-1, 0)", x, x.apart(-1, 0), 1);
        c.refused("promise 26: together(0, 2)", x, x.together(0, 2), 1);
        c.refused("promise 26: together(2, 0)", x, x.together(2, 0), 1);
        c.refused("promise 26: together(0, -1)", x, x.together(0, -1), 1);
        for (int i = 2; i < 16; i++) {
            Checks.copy(x, 0, "a1");
        }
        c.refused("promise 26: 4 ahead of 9", x, x.together(0, 1), 4);
        c.refused("promise 26: 9", x, x.together(0, 2), 9);
        c.taken("promise 25: needs no room", x, x.apart(0, 2), 0);
        c.due("promise 10: 16 COPIES", x.count(1), 16);
    }
}

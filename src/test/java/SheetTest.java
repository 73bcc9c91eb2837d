/** Promises 18 to 20: SHEETS and FORMES. */
public final class SheetTest {
    public static void main(String[] args) {
        Checks c = new Checks("SheetTest");
        everySize(c);
        changedLeaves(c);
        cutOnes(c);
        longBook(c);
        refusals(c);
        c.finish();
    }

    /** Told by hand: of each leaf of a gathering its sheet and its number on it, by formats 2, 4 and 8. */
    private static final String[][] DUE = {
        {"1", "01", "01", "01"},
        {"2", "01 02", "01 02", "01 02"},
        {"4", "01 11 12 02", "01 02 03 04", "01 02 03 04"},
        {"6", "01 11 21 22 12 02", "01 02 11 12 03 04", "01 02 03 04 05 06"},
        {"8", "01 11 21 31 32 22 12 02", "01 02 11 12 13 14 03 04", "01 02 03 04 05 06 07 08"},
        {"10", "01 11 21 31 41 42 32 22 12 02", "01 02 11 12 21 22 13 14 03 04", "01 02 03 04 11 12 05 06 07 08"},
        {"12", "01 11 21 31 41 51 52 42 32 22 12 02", "01 02 11 12 21 22 23 24 13 14 03 04",
            "01 02 03 04 11 12 13 14 05 06 07 08"},
    };

    private static void everySize(Checks c) {
        int[] formats = {2, 4, 8};
        for (String[] due : DUE) {
            Subject x = new Subject();
            Checks.book(x, "a" + due[0]);
            for (int f = 0; f < 3; f++) {
                String[] leaves = due[f + 1].split(" ");
                int sheets = 0;
                for (int place = 0; place < leaves.length; place++) {
                    int sheet = leaves[place].charAt(0) - '0';
                    int number = leaves[place].charAt(1) - '0';
                    String what = "a" + due[0] + " by " + formats[f] + ", place " + place;
                    c.taken("promise 19: SHEET of " + what, x, x.sheet(0, place, formats[f], 0), sheet);
                    c.taken("promise 19: number of " + what, x, x.sheet(0, place, formats[f], 1), number);
                    c.taken("promise 20: front of " + what, x, x.forme(0, place, 0, formats[f]), (number + 1) % 2);
                    c.taken("promise 20: back of " + what, x, x.forme(0, place, 1, formats[f]), number % 2);
                    sheets = Math.max(sheets, sheet + 1);
                }
                c.taken("promise 18: SHEETS of a" + due[0], x, x.sheets(0, formats[f]), sheets);
            }
        }
    }

    /** Terms 3: whatever became of one LEAF, the others lie where they did, and it lies there only if it is PLAIN. */
    private static void changedLeaves(Checks c) {
        for (int row = 0; row < DUE.length; row++) {
            int n = Integer.parseInt(DUE[row][0]);
            for (int i = 1; i <= n; i++) {
                for (String change : new String[] {"-a" + i, "=a" + i, "a" + i + "+2"}) {
                    Subject x = new Subject();
                    String book = "a" + n + "(" + change + ") b1";
                    Checks.book(x, book);
                    boolean cut = change.startsWith("-");
                    for (int place = 0; place < x.leaves(0) - 1; place++) {
                        int number = x.leaf(0, place, 1);
                        boolean lies = number != i || !change.startsWith("=") && x.leaf(0, place, 2) == 0;
                        for (int f = 1; f <= 3; f++) {
                            String on = DUE[row][f].split(" ")[number - 1];
                            String what = "of place " + place + " in '" + book + "' by " + (1 << f);
                            c.due("promise 19: SHEET " + what, x.sheet(0, place, 1 << f, 0), lies ? on.charAt(0) - '0' : -1);
                            c.due("promise 19: number " + what, x.sheet(0, place, 1 << f, 1), lies ? on.charAt(1) - '0' : -1);
                            c.due("promise 20: FORME " + what, x.forme(0, place, 0, 1 << f), lies ? (on.charAt(1) + 1) % 2 : -1);
                        }
                    }
                    c.due("promise 13: LEAVES of '" + book + "'", x.leaves(0), n + 1 + (cut ? -1 : change.endsWith("+2") ? 2 : 0));
                }
            }
        }
    }

    /** Terms 3: a GATHERING of which all is CUT has its SHEETS, ahead of those of the next. */
    private static void cutOnes(Checks c) {
        Subject x = new Subject();
        Checks.book(x, "a8(-a1,-a2,-a3,-a4,-a5,-a6,-a7,-a8) b1(-b1) c4");
        c.taken("promise 13: LEAVES", x, x.leaves(0), 4);
        int[] sheets = {4 + 1 + 2, 2 + 1 + 1, 1 + 1 + 1};
        int[] ahead = {4 + 1, 2 + 1, 1 + 1};
        for (int f = 0; f < 3; f++) {
            c.taken("promise 18: SHEETS by " + (2 << f), x, x.sheets(0, 2 << f), sheets[f]);
            c.taken("promise 19: SHEET of c1 by " + (2 << f), x, x.sheet(0, 0, 2 << f, 0), ahead[f]);
        }
        Checks.book(x, "a1(-a1)");
        c.taken("promise 18: of a BOOK without LEAVES", x, x.sheets(1, 2), 1);
        c.refused("promise 19: of a BOOK without LEAVES", x, x.sheet(1, 0, 2, 0), 1);
        c.refused("promise 20: of a BOOK without LEAVES", x, x.forme(1, 0, 0, 2), 1);
    }

    private static void longBook(Checks c) {
        Subject x = new Subject();
        Checks.book(x, "a8(-a1,-a8,a2+1,=a3) b1 c12 d2(-d1,-d2) chi6");
        c.taken("promise 18: by 2", x, x.sheets(0, 2), 4 + 1 + 6 + 1 + 3);
        c.taken("promise 18: by 4", x, x.sheets(0, 4), 2 + 1 + 3 + 1 + 2);
        c.taken("promise 18: by 8", x, x.sheets(0, 8), 1 + 1 + 2 + 1 + 1);
        // CUT leaves keep their numbers on the SHEET
        c.due("promise 19: number of a2", x.sheet(0, Checks.find(x, 0, "a2"), 4, 1), 2);
        c.due("promise 19: number of a7", x.sheet(0, Checks.find(x, 0, "a7"), 4, 1), 3);
        for (String name : new String[] {"a2+1", "a3"}) {
            int place = Checks.find(x, 0, name);
            c.taken("promise 19: SHEET of " + name, x, x.sheet(0, place, 8, 0), -1);
            c.taken("promise 19: number of " + name, x, x.sheet(0, place, 8, 1), -1);
            c.taken("promise 20: front of " + name, x, x.forme(0, place, 0, 8), -1);
            c.taken("promise 20: back of " + name, x, x.forme(0, place, 1, 8), -1);
        }
        c.due("promise 19: SHEETS ahead count", x.sheet(0, Checks.find(x, 0, "chi3"), 2, 0), 14);
        c.due("promise 19: by 4", x.sheet(0, Checks.find(x, 0, "chi3"), 4, 0), 8);
        c.due("promise 19: by 8", x.sheet(0, Checks.find(x, 0, "c6"), 8, 0), 3);
    }

    private static void refusals(Checks c) {
        Subject x = new Subject();
        Checks.book(x, "a8");
        for (int format : new int[] {0, 1, 3, 5, 6, 7, 9, 16, -2, -4, Integer.MIN_VALUE}) {
            c.refused("promise 18: sheets by " + format, x, x.sheets(0, format), 3);
            c.refused("promise 19: sheet by " + format, x, x.sheet(0, 0, format, 0), 3);
            c.refused("promise 20: forme by " + format, x, x.forme(0, 0, 0, format), 3);
            c.refused("promise 18: 1 ahead of 3", x, x.sheets(1, format), 1);
            c.refused("promise 19: 1 ahead of 3", x, x.sheet(0, 8, format, 0), 1);
            c.refused("promise 20: 1 ahead of 3", x, x.forme(0, 8, 0, format), 1);
        }
        c.refused("promise 19: what 2", x, x.sheet(0, 0, 2, 2), 3);
        c.refused("promise 19: what -1", x, x.sheet(0, 0, 2, -1), 3);
        c.refused("promise 20: side 2", x, x.forme(0, 0, 2, 2), 3);
        c.refused("promise 20: side -1", x, x.forme(0, 0, -1, 2), 3);
        c.refused("promise 18: book -1", x, x.sheets(-1, 2), 1);
        c.refused("promise 19: place -1", x, x.sheet(0, -1, 2, 0), 1);
        c.refused("promise 19: book 1", x, x.sheet(1, 0, 2, 0), 1);
        c.refused("promise 20: place -1", x, x.forme(0, -1, 0, 2), 1);
        c.refused("promise 20: book 1", x, x.forme(1, 0, 0, 2), 1);
        c.refused("promise 19: 1 ahead of what", x, x.sheet(1, 0, 2, 9), 1);
        c.refused("promise 20: 1 ahead of side", x, x.forme(0, 9, 9, 2), 1);
    }
}

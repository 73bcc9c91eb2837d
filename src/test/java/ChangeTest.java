/** Promise 5: change. */
public final class ChangeTest {
    public static void main(String[] args) {
        Checks c = new Checks("ChangeTest");
        taken(c);
        wrong(c);
        faults(c);
        room(c);
        c.finish();
    }

    private static void taken(Checks c) {
        Subject x = new Subject();
        Checks.book(x, "pi2 a-d8,4(-b2) e6 chi2");
        c.taken("change", x, Checks.change(x, 0, " c8 + 2 , = a1 "), 1);
        c.due("the old BOOK is as it was", Checks.written(x, 0), "pi2 a8 b4(-b2) c8 d4 e6 chi2");
        c.due("the new one has both", Checks.written(x, 1), "pi2 a8(=a1) b4(-b2) c8(c8+2) d4 e6 chi2");
        c.due("leaves of the old", x.leaves(0), 33);
        c.due("leaves of the new", x.leaves(1), 35);
        c.due("the TAPE is empty", x.count(2), 0);
        c.taken("of pi and chi and of a CUT one", x, Checks.change(x, 1, "-pi1,chi2+1,b2+1"), 2);
        c.due("all of them", Checks.written(x, 2), "pi2(-pi1) a8(=a1) b4(-b2,b2+1) c8(c8+2) d4 e6 chi2(chi2+1)");
        c.due("promise 11: GATHERINGS stay", x.gatherings(2), 7);
        c.due("promise 12: n stays", x.gathering(2, 2, 1), 4);
    }

    private static void wrong(Checks c) {
        String[] texts = {"", "  ", "a8", "-a1 -a2", "-a1,", "-a1)", "(-a1)", "-a", "a1+", "-a1+1", "-a1000", "= =a1"};
        int[] places = {0, 2, 2, 4, 4, 3, 0, 2, 3, 3, 2, 2};
        for (int i = 0; i < texts.length; i++) {
            Subject x = new Subject();
            Checks.book(x, "a8");
            c.refused("change by '" + texts[i] + "'", x, Checks.change(x, 0, texts[i]), 2);
            c.due("place() behind '" + texts[i] + "'", x.place(), places[i]);
            c.due("fault() behind '" + texts[i] + "'", x.fault(), 0);
            c.due("BOOKS behind '" + texts[i] + "'", x.count(0), 1);
            c.due("TAPE behind '" + texts[i] + "'", x.count(2), 0);
        }
        Subject x = new Subject();
        c.refused("no BOOK", x, Checks.change(x, 0, "?"), 1);
        c.due("no text was read", x.place(), LeafFormula.BAD);
    }

    private static void faults(Checks c) {
        String[] texts = {"-b3", "=c5", "c1+1", "d1+1", "-pi1", "-a0", "-a9", "a2+0", "a2+5", "-a1", "=a1", "a2+1,a2+1",
            "a3+1", "-a2,=a2", "-a1,a2+9,-d1", "-a1,a2+9", "=a2,=a2,-e1"};
        int[] faults = {4, 4, 0, 4, 4, 4, 4, 5, 5, 6, 6, 6, 6, 6, 4, 5, 4};
        for (int i = 0; i < texts.length; i++) {
            Subject x = new Subject();
            Checks.book(x, "a8(-a1,a3+4) b2 c4");
            int got = Checks.change(x, 0, texts[i]);
            c.due("change by '" + texts[i] + "'", got, faults[i] == 0 ? 1 : LeafFormula.BAD);
            c.due("status() behind '" + texts[i] + "'", x.status(), faults[i] == 0 ? 0 : 4);
            c.due("fault() behind '" + texts[i] + "'", x.fault(), faults[i]);
            c.due("BOOK behind '" + texts[i] + "'", Checks.written(x, 0), "a8(-a1,a3+4) b2 c4");
        }
    }

    private static void room(Checks c) {
        Subject x = new Subject();
        Checks.book(x, "a-kk12");
        c.taken("396 and 4", x, Checks.change(x, 0, "a1+4,-b1"), 1);
        c.due("leaves but the CUT one", x.leaves(1), 399);
        c.refused("400 and 1", x, Checks.change(x, 1, "a2+1"), 9);
        c.due("9 is no FAULT", x.fault(), 0);
        c.refused("FAULT ahead of 9", x, Checks.change(x, 1, "a2+1,a1+1"), 4);
        c.taken("nothing INSERTED", x, Checks.change(x, 1, "-a2"), 2);
        c.due("BOOKS", x.count(0), 3);
    }
}

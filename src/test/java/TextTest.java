/** Promises 4, 8 and 9: the FORMULA as a text, where it is WRONG, and its FAULTS. */
public final class TextTest {
    public static void main(String[] args) {
        Checks c = new Checks("TextTest");
        wrongFormulas(c);
        signs(c);
        rightFormulas(c);
        faults(c);
        leastFaults(c);
        room(c);
        latestText(c);
        c.finish();
    }

    private static void wrong(Checks c, String text, int at) {
        Subject x = new Subject();
        String what = "book of '" + text + "'";
        c.refused("promise 4: " + what, x, Checks.book(x, text), 2);
        c.due("promise 8: place() behind " + what, x.place(), at);
        c.due("promise 9: fault() behind " + what, x.fault(), 0);
        c.due("the TAPE behind " + what, x.count(2), 0);
        c.due("BOOKS behind " + what, x.count(0), 0);
    }

    private static void fault(Checks c, String text, int fault) {
        Subject x = new Subject();
        String what = "book of '" + text + "'";
        c.refused("promise 4: " + what, x, Checks.book(x, text), 4);
        c.due("promise 9: fault() behind " + what, x.fault(), fault);
        c.due("promise 8: place() behind " + what, x.place(), LeafFormula.BAD);
        c.due("the TAPE behind " + what, x.count(2), 0);
        c.due("BOOKS behind " + what, x.count(0), 0);
    }

    private static void right(Checks c, String text, String written) {
        Subject x = new Subject();
        String what = "book of '" + text + "'";
        c.taken("promise 4: " + what, x, Checks.book(x, text), 0);
        c.due("promise 15: " + what, Checks.written(x, 0), written);
        c.due("promise 8: place() behind " + what, x.place(), LeafFormula.BAD);
        c.due("promise 9: fault() behind " + what, x.fault(), 0);
        c.due("the TAPE behind " + what, x.count(2), 0);
        c.due("BOOKS behind " + what, x.count(0), 1);
    }

    private static void wrongFormulas(Checks c) {
        wrong(c, "", 0);
        wrong(c, "   ", 3);
        wrong(c, "8", 0);
        wrong(c, "a", 1);
        wrong(c, "a  ", 3);
        wrong(c, "a8 b", 4);
        wrong(c, "a8 8", 3);
        wrong(c, "a8,4", 2);
        wrong(c, "a-", 2);
        wrong(c, "a-b", 3);
        wrong(c, "a--b8", 2);
        wrong(c, "a-8", 2);
        wrong(c, "a-c8,", 5);
        wrong(c, "a-c8,b", 5);
        wrong(c, "a-c8,4,6", 6);
        wrong(c, "a8()", 3);
        wrong(c, "a8(", 3);
        wrong(c, "a8(-a1", 6);
        wrong(c, "a8(-a1,", 7);
        wrong(c, "a8(-a1,)", 7);
        wrong(c, "a8(-a1 =a2)", 7);
        wrong(c, "a8(a1)", 5);
        wrong(c, "a8(a1+)", 6);
        wrong(c, "a8(-a1+1)", 6);
        wrong(c, "a8(=a)", 5);
        wrong(c, "a8(1)", 3);
        wrong(c, "a8(+a1)", 3);
        wrong(c, "a8(-=a1)", 4);
        wrong(c, "a8)", 2);
        wrong(c, "a8(-a1)(-a2)", 7);
        wrong(c, "a8 -b8", 3);
        wrong(c, "a8+1", 2);
        wrong(c, "a8=b8", 2);
        wrong(c, "a8;b8", 2);
        wrong(c, "a8\tb8", 2);
        wrong(c, "A8", 0);
        wrong(c, "a8 {", 3);
        wrong(c, "a8 \u00e9", 3);
        wrong(c, "a8\u0000", 2);
        // long NUMBERS are WRONG as a whole, the same where none can stand
        wrong(c, "a1000", 1);
        wrong(c, "a0008", 1);
        wrong(c, "a8 1234", 3);
        wrong(c, "a8(a1+0001)", 6);
        // it is the first PIECE that counts
        wrong(c, "a8 b ?", 5);
        wrong(c, "? a", 0);
        wrong(c, "a 8 j 8", 4);
        // 120 bytes, the last of them lacking
        wrong(c, " ".repeat(119) + "a", 120);
        wrong(c, "a8" + " ".repeat(117) + ")", 119);
    }

    private static void signs(Checks c) {
        for (String word : new String[] {"j", "u", "w", "jj", "uu", "www", "ab", "aab", "aaaa", "pii", "ppi",
            "ch", "ip", "chii", "cch", "pichi", "api", "ihc", "zzzz"}) {
            wrong(c, word + "8", 0);
            wrong(c, "a8(-" + word + "1)", 4);
        }
        String letters = "abcdefghiklmnopqrstvxyz";
        for (int i = 0; i < 69; i++) {
            Subject x = new Subject();
            Checks.book(x, "pi1 a-zzz1,2 chi4");
            String sign = letters.substring(i % 23, i % 23 + 1).repeat(i / 23 + 1);
            c.due("promise 12: number of " + sign, x.gathering(0, i + 1, 0), i + 1);
            int place = Checks.find(x, 0, sign + "1");
            c.due("promise 7: GATHERING of " + sign, x.leaf(0, place, 0), i + 1);
            c.due("promise 16: NAME of " + sign, Checks.name(x, 0, place), sign + "1");
        }
        Subject x = new Subject();
        Checks.book(x, "pi1 a-zzz1,2 chi4");
        c.due("promise 11: GATHERINGS of all SIGNS", x.gatherings(0), 71);
        c.due("number of pi", x.gathering(0, 0, 0), 0);
        c.due("number of chi", x.gathering(0, 70, 0), 70);
    }

    private static void rightFormulas(Checks c) {
        right(c, "a8", "a8");
        right(c, "  a  008  ", "a8");
        right(c, "pi2a-c8d4(-d3,d4+1)chi2", "pi2 a-c8 d4(-d3,d4+1) chi2");
        right(c, "a - d 8 , 4 ( = b 01 , a 2 + 04 ) e 6", "a8(a2+4) b4(=b1) c8 d4 e6");
        right(c, "chi2 pi1 a8 b8", "chi2 pi1 a-b8");
        right(c, "a8 chi2 b8", "a8 chi2 b8");
        right(c, "pi8 a8 b8 chi8", "pi8 a-b8 chi8");
        right(c, "zzz8 chi8", "zzz8 chi8");
        right(c, "y-aa8 bb-cc8", "y-cc8");
        right(c, "a8 c8", "a8 c8");
        right(c, "a-b1,2 c-d2", "a1 b-d2");
        right(c, "i8 k8 t8 v8 x8 z8 aa8", "i-k8 t-x8 z-aa8");
        for (int n : new int[] {1, 2, 4, 6, 8, 10, 12}) {
            right(c, "a" + n, "a" + n);
            right(c, "a-b12," + n, n == 12 ? "a-b12" : "a12 b" + n);
        }
        right(c, "a8" + " ".repeat(118), "a8");
        right(c, " ".repeat(118) + "a8", "a8");
        right(c, "pi12(pi1+1,-pi1,=pi12) chi12(=chi1,-chi12,chi12+4)", "pi12(-pi1,pi1+1,=pi12) chi12(=chi1,-chi12,chi12+4)");
        right(c, "a8 (=a8, a1+1, -a1)", "a8(-a1,a1+1,=a8)");
    }

    private static void faults(Checks c) {
        fault(c, "pi-b8", 1);
        fault(c, "a-chi8", 1);
        fault(c, "pi-chi8", 1);
        fault(c, "chi-b8", 1);
        fault(c, "b-pi8", 1);
        fault(c, "pi-pi8", 1);
        fault(c, "chi-chi8", 1);
        fault(c, "b-a8", 1);
        fault(c, "b-b8", 1);
        // 120 PIECES of one byte each
        fault(c, "b8".repeat(60), 2);
        wrong(c, "b8".repeat(59) + "b-", 120);
        fault(c, "aa-z8", 1);
        fault(c, "b8 a8", 2);
        fault(c, "b8 b8", 2);
        fault(c, "a-d8 d8", 2);
        fault(c, "a-d8 c-f8", 2);
        fault(c, "a8 pi2", 2);
        fault(c, "pi2 pi2", 2);
        fault(c, "chi2 chi2", 2);
        fault(c, "chi2 b8 a8", 2);
        for (int n : new int[] {0, 3, 5, 7, 9, 11, 13, 14, 16, 100, 999}) {
            fault(c, "a" + n, 3);
            fault(c, "a-c" + n + ",4", 3);
            fault(c, "a-c4," + n, 3);
            fault(c, "chi" + n, 3);
        }
        fault(c, "a8(-b1)", 4);
        fault(c, "a8(-a0)", 4);
        fault(c, "a8(=a9)", 4);
        fault(c, "a8(a9+1)", 4);
        fault(c, "a8 b4(-a1)", 4);
        fault(c, "a8(-b1) b8", 4);
        fault(c, "a-d8,4(-b5)", 4);
        fault(c, "a-d8,4(-e1)", 4);
        fault(c, "b-d8(-a1)", 4);
        fault(c, "a8(-chi1)", 4);
        fault(c, "a8(a1+0)", 5);
        fault(c, "a8(a1+5)", 5);
        fault(c, "a8(a1+999)", 5);
        fault(c, "a8(-a1,-a1)", 6);
        fault(c, "a8(=a1,=a1)", 6);
        fault(c, "a8(-a1,=a1)", 6);
        fault(c, "a8(=a1,-a1)", 6);
        fault(c, "a8(a1+1,a1+2)", 6);
        fault(c, "a-c8(-b1,-a1,c2+1,-b1)", 6);
        right(c, "a8(-a1,a1+1)", "a8(-a1,a1+1)");
        right(c, "a8(a1+4,=a1)", "a8(=a1,a1+4)");
        right(c, "a-d8,4(=a5,=c8,-d4)", "a8(=a5) b4 c8(=c8) d4(-d4)");
    }

    /** Of one GROUP the least number, but of the first GROUP that has one. */
    private static void leastFaults(Checks c) {
        fault(c, "b8 b-a3(-c1)", 1);
        fault(c, "b8 a3(-c1)", 2);
        fault(c, "a3(-b1)", 3);
        fault(c, "a8(a1+9,-a1,-a1,-b1)", 4);
        fault(c, "a8(-a1,-a1,a1+9)", 5);
        fault(c, "a8(-a1,-a1) b-a8", 6);
        fault(c, "a8(a1+5) b3 a-a8", 5);
        fault(c, "chi3 chi2", 3);
        fault(c, "chi2 b3 chi2", 3);
    }

    private static void room(Checks c) {
        Subject x = new Subject();
        c.taken("promise 4: 400 leaves", x, Checks.book(x, "a-kk12 ll4"), 0);
        c.due("leaves of it", x.leaves(0), 400);
        c.refused("promise 4: 401 leaves", x, Checks.book(x, "a-kk12 ll4 mm1"), 9);
        c.due("promise 9: 9 is no FAULT", x.fault(), 0);
        c.due("promise 8: nor is the text WRONG", x.place(), LeafFormula.BAD);
        c.due("the TAPE is empty behind a 9", x.count(2), 0);
        c.refused("promise 4: INSERTED ones count", x, Checks.book(x, "a-kk12 ll4(ll1+1)"), 9);
        c.refused("promise 4: CUT ones, too", x, Checks.book(x, "a-kk12 ll4(-ll1,ll1+1)"), 9);
        c.taken("promise 4: 396 and 4", x, Checks.book(x, "a-kk12(-a1,a1+4)"), 1);
        c.due("leaves but the CUT one", x.leaves(1), 399);
        c.refused("promise 4: FAULT ahead of 9", x, Checks.book(x, "a-zzz12(-a1,=a1)"), 4);
        c.due("the FAULT", x.fault(), 6);
        c.refused("promise 4: too many by far", x, Checks.book(x, "a-zzz12"), 9);
        for (int i = 2; i < 8; i++) {
            c.taken("promise 4: BOOK " + i, x, Checks.book(x, "a8"), i);
        }
        c.refused("promise 4: the ninth BOOK", x, Checks.book(x, "a8"), 9);
        c.due("8 BOOKS", x.count(0), 8);
        c.refused("promise 5: the ninth BOOK", x, Checks.change(x, 2, "-a1"), 9);
        c.refused("promise 4: 2 ahead of 9", x, Checks.book(x, "a8)"), 2);
        c.refused("promise 4: 4 ahead of 9", x, Checks.book(x, "a7"), 4);
        c.refused("promise 5: 2 ahead of 9", x, Checks.change(x, 2, "-a1)"), 2);
        c.refused("promise 5: 4 ahead of 9", x, Checks.change(x, 2, "-a9"), 4);
        c.refused("promise 5: 1 ahead of 9", x, Checks.change(x, 8, "-a1"), 1);
    }

    /** place() and fault() are of the latest text that was read, by whichever call. */
    private static void latestText(Checks c) {
        Subject x = new Subject();
        Checks.book(x, "a8");
        Checks.book(x, "a8 b");
        c.due("promise 8: of a WRONG text", x.place(), 4);
        c.refused("promise 5: no such BOOK", x, Checks.change(x, 1, "-a1"), 1);
        c.due("promise 5: the TAPE is empty behind a 1", x.count(2), 0);
        c.refused("promise 6: no such BOOK", x, Checks.copy(x, 1, "a1"), 1);
        c.due("promise 6: the TAPE is empty behind a 1", x.count(2), 0);
        c.refused("promise 7: no such BOOK", x, Checks.find(x, -1, "a1"), 1);
        c.due("promise 7: the TAPE is empty behind a 1", x.count(2), 0);
        c.due("promise 8: a 1 reads no text", x.place(), 4);
        Checks.book(x, "a3");
        c.due("promise 8: a right text behind it", x.place(), LeafFormula.BAD);
        c.due("promise 9: its FAULT", x.fault(), 3);
        Checks.copy(x, 9, "a1");
        c.due("promise 9: a 1 reads no text", x.fault(), 3);
        c.taken("promise 7: find", x, Checks.find(x, 0, "a1"), 0);
        c.due("promise 9: a text without a FAULT", x.fault(), 0);
        Checks.copy(x, 0, "a9");
        c.due("promise 9: of a ROW", x.fault(), 7);
        Checks.find(x, 0, "a1 a");
        c.due("promise 9: a WRONG text has none", x.fault(), 0);
        c.due("promise 8: of a NAME", x.place(), 3);
    }
}

/** Terms 2, edge by edge: FAULTS and which of several is told, LEAVES, how BOOKS are WRITTEN, and their room. */
public final class EdgeBooksTest {
    private static final int[] SIZES = {1, 2, 4, 6, 8, 10, 12};
    private static final int PI = 0;
    private static final int CHI = 70;

    public static void main(String[] args) {
        Checks c = new Checks("EdgeBooksTest");
        spreads(c);
        successions(c);
        chis(c);
        sizes(c);
        leavesOfChanges(c);
        signsOfChanges(c);
        insertions(c);
        twice(c);
        twiceByChange(c);
        leastOfOneGroup(c);
        firstOfTwoGroups(c);
        leastOfChange(c);
        alternation(c);
        whatBecame(c);
        conjugates(c);
        written(c);
        most(c);
        mostLeavesByChange(c);
        mostBooks(c);
        c.finish();
    }

    private static String sign(int number) {
        String letters = "abcdefghiklmnopqrstvxyz";
        if (number == PI || number == CHI) {
            return number == PI ? "pi" : "chi";
        }
        return letters.substring((number - 1) % 23, (number - 1) % 23 + 1).repeat((number + 22) / 23);
    }

    /** A right FORMULA on a new object: fault 0 if it is taken. */
    private static void due(Checks c, String text, int fault) {
        Subject x = new Subject();
        String what = "Terms 2: '" + text + "'";
        int got = Checks.book(x, text);
        if (fault == 0) {
            c.taken(what, x, got, 0);
        } else {
            c.refused(what, x, got, 4);
        }
        c.due(what + ", fault()", x.fault(), fault);
        c.due(what + ", place()", x.place(), LeafFormula.BAD);
        c.due(what + ", BOOKS", x.count(0), fault == 0 ? 1 : 0);
        c.due(what + ", TAPE", x.count(2), 0);
    }

    /** The same of CHANGES to a BOOK that is there. */
    private static void dueChange(Checks c, String book, String changes, int fault) {
        Subject x = new Subject();
        c.taken("Terms 2: '" + book + "'", x, Checks.book(x, book), 0);
        String before = Checks.written(x, 0);
        String what = "promise 5: '" + book + "' changed by '" + changes + "'";
        int got = Checks.change(x, 0, changes);
        if (fault == 0) {
            c.taken(what, x, got, 1);
        } else {
            c.refused(what, x, got, 4);
        }
        c.due(what + ", fault()", x.fault(), fault);
        c.due(what + ", place()", x.place(), LeafFormula.BAD);
        c.due(what + ", BOOKS", x.count(0), fault == 0 ? 2 : 1);
        c.due(what + ", TAPE", x.count(2), 0);
        c.due(what + ", the old BOOK", Checks.written(x, 0), before);
    }

    /** FAULT 1: all pairs of SIGNS in SIGN - SIGN. */
    private static void spreads(Checks c) {
        for (int first = PI; first <= CHI; first++) {
            for (int last = PI; last <= CHI; last++) {
                boolean right = first > PI && last < CHI && first < last;
                Subject x = new Subject();
                String text = sign(first) + "-" + sign(last) + "1";
                c.due("Terms 2, FAULT 1: '" + text + "'", Checks.book(x, text), right ? 0 : LeafFormula.BAD);
                c.due("Terms 2, FAULT 1: '" + text + "', fault()", x.fault(), right ? 0 : 1);
                if (right) {
                    c.due("a GATHERING for each SIGN of '" + text + "'", x.gatherings(0), last - first + 1);
                    c.due("the first SIGN of '" + text + "'", x.gathering(0, 0, 0), first);
                    c.due("the last SIGN of '" + text + "'", x.gathering(0, last - first, 0), last);
                }
            }
        }
    }

    /** FAULT 2: all pairs of SIGNS one behind the other. */
    private static void successions(Checks c) {
        for (int first = PI; first <= CHI; first++) {
            for (int second = PI; second <= CHI; second++) {
                boolean right = first == CHI ? second != CHI : second > first;
                Subject x = new Subject();
                String text = sign(first) + "1 " + sign(second) + "1";
                c.due("Terms 2, FAULT 2: '" + text + "'", Checks.book(x, text), right ? 0 : LeafFormula.BAD);
                c.due("Terms 2, FAULT 2: '" + text + "', fault()", x.fault(), right ? 0 : 2);
                if (right) {
                    c.due("'" + text + "', GATHERING 0", x.gathering(0, 0, 0), first);
                    c.due("'" + text + "', GATHERING 1", x.gathering(0, 1, 0), second);
                }
            }
        }
        String[] wrong = {"a-d8 a8", "a-d8 c8", "a-d8 d8", "a-d8 d-f8", "a-d8 c-f8", "a-d8,4 d8", "b-d8 a8", "a-d8 pi8",
            "a8 c8 b8", "a8 c8 chi8 b8", "a8 chi8 a8", "chi8 b8 a8", "a8 pi8", "pi8 pi8", "pi8 chi8 pi8", "z8 aa8 z8",
            "zz8 aa8", "zzz8 zzz8", "zzz8 a8", "chi8 b8 pi8"};
        for (String text : wrong) {
            due(c, text, 2);
        }
        for (String text : new String[] {"a-d8 e8", "a-d8 e-f8", "a-d8 zzz8", "pi8 a-d8", "chi8 pi8 a8", "z8 aa8", "zz8 aaa8"}) {
            due(c, text, 0);
        }
    }

    /** chi is the SIGN of one GROUP at most, wherever it stands. */
    private static void chis(Checks c) {
        for (String text : new String[] {"chi8", "chi8 pi8 a8 zzz8", "pi8 chi8 a8 zzz8", "pi8 a8 chi8 zzz8", "pi8 a8 zzz8 chi8"}) {
            due(c, text, 0);
            due(c, text + " chi8", 2);
            due(c, "chi1(-chi1) " + text, 2);
        }
        due(c, "chi8 chi8 chi8", 2);
        due(c, "chi8 a8 chi8 b8", 2);
    }

    /** FAULT 3: n and m are 1 or even numbers from 2 to 12. */
    private static void sizes(Checks c) {
        for (int n = 0; n <= 30; n++) {
            int fault = isSize(n) ? 0 : 3;
            for (String sign : new String[] {"a", "zzz", "pi", "chi"}) {
                due(c, sign + n, fault);
                due(c, "b8 " + sign + n, "a".equals(sign) || "pi".equals(sign) ? 2 : fault);
            }
            due(c, "a-b" + n, fault);
            for (int m = 0; m <= 14; m++) {
                due(c, "a-b" + n + "," + m, isSize(n) && isSize(m) ? 0 : 3);
            }
        }
        for (int n : new int[] {99, 100, 101, 102, 256, 257, 258, 512, 998, 999}) {
            due(c, "a" + n, 3);
            due(c, "a-b" + n + ",8", 3);
            due(c, "a-b8," + n, 3);
        }
    }

    private static boolean isSize(int n) {
        for (int size : SIZES) {
            if (size == n) {
                return true;
            }
        }
        return false;
    }

    /** FAULT 4: i from 1 to the leaves of that GATHERING. */
    private static void leavesOfChanges(Checks c) {
        for (int n : SIZES) {
            for (int i : new int[] {0, 1, n - 1, n, n + 1, n + 2, 13, 24, 256 + n, 999}) {
                int fault = i >= 1 && i <= n ? 0 : 4;
                for (String sign : new String[] {"pi", "a", "zzz", "chi"}) {
                    due(c, sign + n + "(-" + sign + i + ")", fault);
                    due(c, sign + n + "(=" + sign + i + ")", fault);
                    due(c, sign + n + "(" + sign + i + "+1)", fault);
                    dueChange(c, sign + n, "-" + sign + i, fault);
                    dueChange(c, sign + n, "=" + sign + i, fault);
                    dueChange(c, sign + n, sign + i + "+1", fault);
                }
            }
        }
        // of the GATHERING of that SIGN: n and m in turn
        due(c, "a-d2,4(-a3)", 4);
        due(c, "a-d2,4(-a2)", 0);
        due(c, "a-d2,4(-b5)", 4);
        due(c, "a-d2,4(-b4)", 0);
        due(c, "a-d2,4(c3+1)", 4);
        due(c, "a-d2,4(=d4)", 0);
        due(c, "a-d2,4(=d5)", 4);
        // a LEAF is there for CHANGES when it is CUT or REPLACED, too
        due(c, "a1(-a1,a1+1)", 0);
        due(c, "a1(a1+1,=a1)", 0);
    }

    /** FAULT 4: of one of its own SIGNS, all from the one to the other; CHANGES of a BOOK: of all of its SIGNS. */
    private static void signsOfChanges(Checks c) {
        for (int sign = PI; sign <= CHI; sign++) {
            boolean own = sign >= 22 && sign <= 25;
            due(c, "y-bb4(-" + sign(sign) + "1)", own ? 0 : 4);
            due(c, "pi4 d4 y-bb4(=" + sign(sign) + "1) zzz4 chi4", own ? 0 : 4);
            due(c, "d4(" + sign(sign) + "1+1) e4", sign == 4 ? 0 : 4);
            due(c, "chi4(" + sign(sign) + "1+1) e4", sign == CHI ? 0 : 4);
            boolean there = own || sign == PI || sign == 4 || sign == 69 || sign == CHI;
            dueChange(c, "pi4 d4 y-bb4 zzz4 chi4", "-" + sign(sign) + "1", there ? 0 : 4);
        }
        due(c, "a4 b4(-a1)", 4);
        due(c, "a4(-b1) b4", 4);
        due(c, "a4(-a1,-b1) b4", 4);
        due(c, "a-c4(-c1,-b1,-a1)", 0);
        // chi may stand ahead of what is lesser in the ORDER, so SIGNS of GROUPS ahead are not all lesser
        String[][] pairs = {{"pi", "a"}, {"a", "b"}, {"a-c", "d-f"}, {"a", "chi"}, {"chi", "pi"}, {"chi", "a"},
            {"chi", "zzz"}, {"chi", "a-c"}, {"b-d", "chi"}};
        for (String[] pair : pairs) {
            leafOfOneGroup(c, pair, true);
            leafOfOneGroup(c, pair, false);
        }
    }

    /** A LEAF of one of two GROUPS in the CHANGES of each: it is right in those of its own GROUP alone. */
    private static void leafOfOneGroup(Checks c, String[] pair, boolean ofFirst) {
        String leaf = pair[ofFirst ? 0 : 1].split("-")[0] + "1";
        String first = pair[0] + "4";
        String second = pair[1] + "4";
        for (String change : new String[] {"-" + leaf, "=" + leaf, leaf + "+1"}) {
            due(c, first + "(" + change + ") " + second, ofFirst ? 0 : 4);
            due(c, first + " " + second + "(" + change + ")", ofFirst ? 4 : 0);
            due(c, first + "(" + change + ") " + second + "(" + change + ")", 4);
        }
        due(c, first + " " + second + "(" + leaf + "+5)", ofFirst ? 4 : 5);
        due(c, first + " " + second + "(-" + leaf + ",-" + leaf + ")", ofFirst ? 4 : 6);
    }

    /** FAULT 5: each k is from 1 to 4. */
    private static void insertions(Checks c) {
        for (int k : new int[] {0, 1, 2, 3, 4, 5, 6, 10, 255, 256, 257, 260, 512, 513, 999}) {
            int fault = k >= 1 && k <= 4 ? 0 : 5;
            due(c, "a8(a1+" + k + ")", fault);
            due(c, "pi8(=pi1,pi8+" + k + ")", fault);
            due(c, "chi8(chi8+4,chi1+" + k + ")", fault);
            due(c, "a-c8(c8+" + k + ",-a1)", fault);
            dueChange(c, "a8", "a1+" + k, fault);
            dueChange(c, "a8(a1+4)", "-a2,a2+" + k, fault);
        }
    }

    /** FAULT 6: which two CHANGES one LEAF bears. */
    private static void twice(Checks c) {
        String[] changes = {"-a2", "=a2", "a2+1"};
        for (int one = 0; one < 3; one++) {
            for (int other = 0; other < 3; other++) {
                int fault = (one == 2) == (other == 2) ? 6 : 0;
                due(c, "a4(" + changes[one] + "," + changes[other] + ")", fault);
                due(c, "a4(" + changes[one] + ",-a1,=a3,a1+1," + changes[other] + ")", fault);
                dueChange(c, "a4", changes[one] + "," + changes[other], fault);
                dueChange(c, "a4(" + changes[one] + ")", changes[other], fault);
                // of unlike i, and of unlike SIGNS, they are of unlike LEAVES
                due(c, "a4(" + changes[one] + "," + changes[other].replace("a2", "a3") + ")", 0);
                due(c, "a-b4(" + changes[one] + "," + changes[other].replace("a2", "b2") + ")", 0);
                due(c, "a4(" + changes[one] + ") b4(" + changes[other].replace("a2", "b2") + ")", 0);
            }
        }
        due(c, "a4(a2+1,a2+2)", 6);
        due(c, "a4(a2+4,a2+4)", 6);
        due(c, "a4(-a02,-a002)", 6);
        due(c, "a4(-a2,a2+1,=a2)", 6);
        due(c, "a4(a2+1,-a2,a2+1)", 6);
        due(c, "a4(-a1,a1+1,-a2,a2+1,-a3,a3+1,-a4,a4+1)", 0);
    }

    /** CHANGES of the new BOOK are the old ones, too, of however many steps. */
    private static void twiceByChange(Checks c) {
        Subject x = new Subject();
        Checks.book(x, "a-b4(-a1)");
        c.taken("promise 5: the first step", x, Checks.change(x, 0, "=b1"), 1);
        c.taken("promise 5: the second step", x, Checks.change(x, 1, "a1+2"), 2);
        for (String text : new String[] {"-a1", "=a1", "-b1", "=b1", "a1+1", "-a2,a1+2"}) {
            c.refused("promise 5: twice by '" + text + "'", x, Checks.change(x, 2, text), 4);
            c.due("promise 9: twice by '" + text + "'", x.fault(), 6);
        }
        c.taken("promise 5: the old BOOK has not that CHANGE", x, Checks.change(x, 0, "a1+4"), 3);
        c.due("promise 5: BOOK 0 stays", Checks.written(x, 0), "a-b4(-a1)");
        c.due("promise 5: BOOK 1 stays", Checks.written(x, 1), "a-b4(-a1,=b1)");
        c.due("promise 5: BOOK 2", Checks.written(x, 2), "a-b4(-a1,a1+2,=b1)");
        c.due("promise 5: BOOK 3", Checks.written(x, 3), "a-b4(-a1,a1+4)");
        int[] leaves = {7, 7, 9, 11};
        for (int book = 0; book < 4; book++) {
            c.due("promise 13: LEAVES of BOOK " + book, x.leaves(book), leaves[book]);
        }
    }

    /** Of one GROUP the least number: each pair, in both orders where the text leaves them. */
    private static void leastOfOneGroup(Checks c) {
        due(c, "d8 c-c8", 1);
        due(c, "d8 b-a7", 1);
        due(c, "b-a7", 1);
        due(c, "b-a8,13", 1);
        due(c, "b-a8(-c1)", 1);
        due(c, "b-a8(a1+5)", 1);
        due(c, "b-a8(-b1,-b1)", 1);
        due(c, "pi-b3(-z1,b1+9,-b1,-b1)", 1);
        due(c, "d8 c7", 2);
        due(c, "d8 a-c8,7", 2);
        due(c, "d8 c8(-d1)", 2);
        due(c, "d8 c8(c1+0)", 2);
        due(c, "d8 c8(-c1,=c1)", 2);
        due(c, "chi8 chi9(-a1,chi1+0,-chi1,-chi1)", 2);
        due(c, "a9(-b1)", 3);
        due(c, "a9(-a10)", 3);
        due(c, "a-b8,9(-b10)", 3);
        due(c, "a9(a1+5)", 3);
        due(c, "a9(-a1,-a1)", 3);
        due(c, "a8(-b1,a1+5)", 4);
        due(c, "a8(a1+5,-b1)", 4);
        due(c, "a8(a1+5,-a9)", 4);
        due(c, "a8(-b1,a1+5,-a1,-a1)", 4);
        due(c, "a8(-a1,-a1,-b1)", 4);
        due(c, "a8(-b1,-b1)", 4);
        due(c, "a8(b1+5)", 4);
        due(c, "a8(a0+0)", 4);
        due(c, "a8(-a1,-a1,a2+5)", 5);
        due(c, "a8(a2+0,-a1,-a1)", 5);
        due(c, "a8(a1+5,a1+5)", 5);
        due(c, "a8(a1+1,a1+0)", 5);
        due(c, "a8(-a1,-a1,a1+1,a1+1)", 6);
    }

    /** Of two GROUPS the first that has one, whichever the numbers. */
    private static void firstOfTwoGroups(Checks c) {
        String[] first = {"e-e8", "a8", "e3", "e8(-f1)", "e8(e1+5)", "e8(-e1,=e1)"};
        String[] second = {"g-g8", "b8", "g3", "g8(-h1)", "g8(g1+5)", "g8(-g1,=g1)"};
        for (int one = 0; one < 6; one++) {
            due(c, "d8 " + first[one], one + 1);
            due(c, "d8 " + second[one], one + 1);
            due(c, "d8 e8 " + second[one] + " z8", one + 1);
            for (int other = 0; other < 6; other++) {
                due(c, "d8 " + first[one] + " " + second[other], one + 1);
                due(c, "d8 " + first[one] + " f8 " + second[other], one + 1);
            }
        }
        due(c, "chi8 b8 chi8", 2);
        due(c, "chi8 b8(b1+5) chi8", 5);
        due(c, "chi7 chi8", 3);
    }

    /** promise 5: the least of 4, 5 and 6, of all CHANGES, in whatever order they stand. */
    private static void leastOfChange(Checks c) {
        String[] bad = {"-c1", "a3+5", "-a2,=a2"};
        for (int one = 0; one < 3; one++) {
            dueChange(c, "a-b4", bad[one], one + 4);
            dueChange(c, "a-b4(-b4)", "=a1," + bad[one] + ",b4+1", one + 4);
            for (int other = 0; other < 3; other++) {
                if (one != other) {
                    dueChange(c, "a-b4", bad[one] + "," + bad[other], Math.min(one, other) + 4);
                }
            }
        }
        dueChange(c, "a-b4", "-a2,-a2,a3+0,-pi1", 4);
        dueChange(c, "a-b4(-a2)", "-a2,a3+0", 5);
        dueChange(c, "a-b4(-a2)", "-a2,-a5", 4);
        dueChange(c, "a-b4(-a2)", "a2+1,=b1", 0);
    }

    /** With , m: the first, third, .. of n leaves, the second, fourth, .. of m. */
    private static void alternation(Checks c) {
        for (int many = 2; many <= 7; many++) {
            Subject x = new Subject();
            String text = sign(5) + "-" + sign(4 + many);
            Checks.book(x, "c6 " + text + "8,2");
            Checks.book(x, "c6 " + text + "8");
            c.due("Terms 2: GATHERINGS of '" + text + "'", x.gatherings(0), many + 1);
            for (int g = 1; g <= many; g++) {
                c.due("Terms 2: leaves of '" + text + "8,2', " + g, x.gathering(0, g, 1), g % 2 == 1 ? 8 : 2);
                c.due("Terms 2: leaves of '" + text + "8', " + g, x.gathering(1, g, 1), 8);
                c.due("Terms 2: SIGN of '" + text + "8,2', " + g, x.gathering(0, g, 0), 4 + g);
            }
        }
        // the turn begins anew with each GROUP
        Subject x = new Subject();
        Checks.book(x, "a-c8,2 d-f4,6 chi1");
        int[] leaves = {8, 2, 8, 4, 6, 4, 1};
        for (int g = 0; g < leaves.length; g++) {
            c.due("Terms 2: leaves of GATHERING " + g, x.gathering(0, g, 1), leaves[g]);
        }
    }

    /** CUT, REPLACED and INSERTED ones, at the first and the last i, by the order of PLACES. */
    private static void whatBecame(Checks c) {
        String[] texts = {"a4", "a4(-a1)", "a4(-a4)", "a4(=a1,=a4)", "a4(a1+4)", "a4(a4+1)", "a4(-a1,a1+1)", "a4(-a4,a4+2)",
            "a4(=a2,a2+3)", "a1(-a1)", "a1(-a1,a1+4)", "a2(-a1,-a2)", "a2(-a2,a1+1)", "a1(=a1,a1+1)"};
        String[] leaves = {"1p 2p 3p 4p", "2p 3p 4p", "1p 2p 3p", "1r 2p 3p 4r", "1p 1+1 1+2 1+3 1+4 2p 3p 4p", "1p 2p 3p 4p 4+1",
            "1+1 2p 3p 4p", "1p 2p 3p 4+1 4+2", "1p 2r 2+1 2+2 2+3 3p 4p", "", "1+1 1+2 1+3 1+4", "", "1p 1+1", "1r 1+1"};
        for (int t = 0; t < texts.length; t++) {
            Subject x = new Subject();
            Checks.book(x, texts[t]);
            StringBuilder told = new StringBuilder();
            for (int place = 0; place < x.leaves(0); place++) {
                int kind = x.leaf(0, place, 2);
                told.append(place > 0 ? " " : "").append(x.leaf(0, place, 1)).append("pr+".charAt(kind));
                told.append(kind == 2 ? "" + x.leaf(0, place, 3) : "");
                c.due("promise 14: GATHERING in '" + texts[t] + "'", x.leaf(0, place, 0), 0);
                c.due("promise 14: k-th of others in '" + texts[t] + "'", kind < 2 ? x.leaf(0, place, 3) : 0, 0);
            }
            c.due("promise 14: LEAVES of '" + texts[t] + "'", told.toString(), leaves[t]);
            c.due("promise 12: how many", x.gathering(0, 0, 2), leaves[t].isEmpty() ? 0 : leaves[t].split(" ").length);
            c.due("promise 12: CUT ones", x.gathering(0, 0, 3), texts[t].split("-a").length - 1);
            c.due("promise 12: leaves, CUT ones, too", x.gathering(0, 0, 1), texts[t].charAt(1) - '0');
        }
    }

    /** Two PLAIN ones whose i come to n + 1: what CUT, REPLACED and INSERTED ones make of it, on either side. */
    private static void conjugates(Checks c) {
        for (int n : SIZES) {
            for (int i = 1; i <= n; i++) {
                int other = n + 1 - i;
                String[] changes = {"", "-a" + i, "=a" + i, "a" + i + "+1", "-a" + other, "=a" + other, "a" + other + "+2"};
                for (int k = 0; k < changes.length; k++) {
                    Subject x = new Subject();
                    String text = "pi2 a" + n + (k == 0 ? "" : "(" + changes[k] + ")") + " b" + n;
                    Checks.book(x, text);
                    int place = Checks.find(x, 0, "a" + i);
                    int otherPlace = Checks.find(x, 0, "a" + other);
                    boolean one = n > 1 && k % 3 == 0;
                    if (place >= 0) {
                        c.due("Terms 2: CONJUGATE of a" + i + " in '" + text + "'", x.leaf(0, place, 4), one ? otherPlace : -1);
                    } else {
                        c.due("Terms 2: a" + i + " is CUT in '" + text + "'", changes[k].contains("-") ? 1 : 0, 1);
                    }
                    int inserted = Checks.find(x, 0, "a" + i + "+1");
                    if (inserted >= 0) {
                        c.due("Terms 2: CONJUGATE of an INSERTED one in '" + text + "'", x.leaf(0, inserted, 4), -1);
                    }
                }
            }
        }
    }

    /** What stands as one GROUP and what does not. */
    private static void written(Checks c) {
        String[][] due = {
            {"a8", "a8"}, {"a8 b8", "a-b8"}, {"a8 b8 c8", "a-c8"}, {"a8 c8", "a8 c8"}, {"a8 b6", "a8 b6"},
            {"a-c8,6", "a8 b6 c8"}, {"a-d8,8", "a-d8"}, {"a-b8,6 c-d6,8", "a8 b-c6 d8"}, {"a-b1 c-d1", "a-d1"},
            {"pi8 a8", "pi8 a8"}, {"pi8 a-b8", "pi8 a-b8"}, {"zzz8 chi8", "zzz8 chi8"}, {"yyy-zzz8 chi8", "yyy-zzz8 chi8"},
            {"chi8 pi8", "chi8 pi8"}, {"chi8 a8", "chi8 a8"}, {"a8 chi8 b8", "a8 chi8 b8"}, {"a-b8 chi8 c-d8", "a-b8 chi8 c-d8"},
            {"z8 aa8", "z-aa8"}, {"zz8 aaa8", "zz-aaa8"}, {"z8 aaa8", "z8 aaa8"}, {"a8 aa8", "a8 aa8"}, {"i8 k8", "i-k8"},
            {"t8 v8", "t-v8"}, {"v8 x8", "v-x8"}, {"a8(-a1) b8(-b1)", "a-b8(-a1,-b1)"}, {"a8 b8(b8+4)", "a-b8(b8+4)"},
            {"a8(-a1,-a2) b6", "a8(-a1,-a2) b6"}, {"a-c8(-c1,-b1,-a1)", "a-c8(-a1,-b1,-c1)"},
            {"a12(a12+1,-a12,=a2,a1+1,-a1,a2+3)", "a12(-a1,a1+1,=a2,a2+3,-a12,a12+1)"},
            {"a12(-a10,-a9,-a2,-a11)", "a12(-a2,-a9,-a10,-a11)"}, {"pi2(pi1+1,=pi1)", "pi2(=pi1,pi1+1)"},
            {"chi2(-chi2,-chi1)", "chi2(-chi1,-chi2)"}, {"a002 b02(-b001,b01+004)", "a-b2(-b1,b1+4)"},
            {"a2 b2 d2 e2 f4 g4 h2", "a-b2 d-e2 f-g4 h2"}, {"a10 b12 c12 d10", "a10 b-c12 d10"},
        };
        for (String[] pair : due) {
            Subject x = new Subject();
            c.taken("promise 15: '" + pair[0] + "'", x, Checks.book(x, pair[0]), 0);
            c.due("promise 15: '" + pair[0] + "' WRITTEN", Checks.written(x, 0), pair[1]);
            c.refused("promise 15: ahead of '" + pair[1] + "'", x, x.letter(0, -1), 1);
            c.refused("promise 15: behind '" + pair[1] + "'", x, x.letter(0, pair[1].length()), 1);
            c.taken("promise 15: the last of '" + pair[1] + "'", x, x.letter(0, pair[1].length() - 1), pair[1].charAt(pair[1].length() - 1));
            c.taken("promise 4: it is a FORMULA of the same", x, Checks.book(x, pair[1]), 1);
            c.taken("promise 17: WRITTEN the same", x, x.same(0, 1), 1);
        }
    }

    /** 400 leaves at most: all of its GATHERINGS, CUT ones, too, and INSERTED ones; behind all FAULTS. */
    private static void most(Checks c) {
        String[] taken = {"a-kk12 ll4", "a-kk12 ll2(ll1+2)", "a-kk12(a1+4)", "a-kk12 ll2 mm2", "a-kk12(-a1,a1+4)",
            "a-kk12 ll4(-ll1,-ll2,-ll3,-ll4)", "a-kk12 ll4(=ll1)", "pi4 a-kk12", "chi4 a-kk12", "a-kk12 chi2(chi2+2)",
            "pi2(pi1+2) a-kk12", "pi2(pi1+1,pi2+1) a-kk12", "a-ii12 kk2 chi12(chi12+2)",
            "a-kk12 ll2 mm1", "a-kk12(a1+3)", "a-ccc8,2 chi1"};
        for (String text : taken) {
            due(c, text, 0);
        }
        String[] refused = {"a-kk12 ll4 mm1", "a-kk12 ll4(ll1+1)", "a-kk12(a1+4,a2+1)", "a-kk12(-a1,a1+4,a2+1)", "a-kk12 ll6",
            "a-kk12 ll4(-ll1,-ll2,-ll3,-ll4) mm1", "a-kk12 ll4(-ll4,ll1+1)", "pi4 a-kk12 chi1", "a-zzz12", "a-zzz6", "a-kk12 ll4(=ll1,ll1+1)",
            "pi2(pi1+3) a-kk12", "pi2(pi1+2,pi2+1) a-kk12", "a-ii12 kk2 chi12(chi12+3)", "a-ii12 kk2 chi12(chi11+3)"};
        for (String text : refused) {
            Subject x = new Subject();
            c.refused("Terms 2: no room for '" + text + "'", x, Checks.book(x, text), 9);
            c.due("promise 9: 9 is no FAULT", x.fault(), 0);
            c.due("promise 8: nor is the text WRONG", x.place(), LeafFormula.BAD);
            c.due("promise 4: no BOOK", x.count(0), 0);
            c.due("promise 4: the TAPE is empty", x.count(2), 0);
        }
        String[] faults = {"a-kk12 ll6 zz-aa1", "a-kk12 ll6 a1", "a-kk12 ll6 mm3", "a-kk12 ll6 mm2(-nn1)", "a-kk12 ll6 mm2(mm1+5)",
            "a-kk12 ll6 mm2(=mm1,-mm1)"};
        for (int f = 0; f < faults.length; f++) {
            due(c, faults[f], f + 1);
        }
        Subject x = new Subject();
        c.refused("promise 4: WRONG ahead of 9", x, Checks.book(x, "a-kk12 ll6 mm"), 2);
        c.taken("promise 4: 400 leaves", x, Checks.book(x, "a-kk12 ll4"), 0);
        c.taken("promise 13: LEAVES", x, x.leaves(0), 400);
        c.taken("promise 14: the last one", x, x.leaf(0, 399, 1), 4);
        c.refused("promise 14: behind it", x, x.leaf(0, 400, 1), 1);
        c.taken("promise 7: the last one", x, Checks.find(x, 0, "ll4"), 399);
        lastOfMost(c, "a-kk12 ll4", new int[] {33, 4, 0, 0, 396}, "ll4");
        lastOfMost(c, "a-kk12 ll4(=ll4)", new int[] {33, 4, 1, 0, -1}, "ll4");
        lastOfMost(c, "a-kk12 ll2(ll2+2)", new int[] {33, 2, 2, 2, -1}, "ll2+2");
        lastOfMost(c, "a-kk12 chi1(chi1+3)", new int[] {33, 1, 2, 3, -1}, "chi1+3");
    }

    /** Of 400 LEAVES the last one tells all that any other does. */
    private static void lastOfMost(Checks c, String text, int[] due, String name) {
        Subject x = new Subject();
        c.taken("Terms 2: '" + text + "'", x, Checks.book(x, text), 0);
        c.due("promise 13: '" + text + "'", x.leaves(0), 400);
        for (int what = 0; what < 5; what++) {
            c.taken("promise 14: the last of '" + text + "', " + what, x, x.leaf(0, 399, what), due[what]);
        }
        c.due("promise 16: the last of '" + text + "'", Checks.name(x, 0, 399), name);
        boolean plain = due[2] == 0;
        c.taken("promise 19: the last of '" + text + "'", x, x.sheet(0, 399, 8, 1), plain ? 4 : -1);
        c.taken("promise 20: the last of '" + text + "'", x, x.forme(0, 399, 0, 8), plain ? 1 : -1);
        c.taken("promise 7: the last of '" + text + "'", x, Checks.find(x, 0, name), 399);
    }

    private static void mostLeavesByChange(Checks c) {
        Subject x = new Subject();
        Checks.book(x, "a-kk12");
        c.taken("promise 5: 399", x, Checks.change(x, 0, "a1+3"), 1);
        c.taken("promise 5: 400", x, Checks.change(x, 1, "-a2,a2+1"), 2);
        c.due("promise 13: of them LEAVES", x.leaves(2), 399);
        c.refused("promise 5: 401", x, Checks.change(x, 2, "a3+1"), 9);
        c.due("promise 9: 9 is no FAULT", x.fault(), 0);
        c.due("promise 8: nor is the text WRONG", x.place(), LeafFormula.BAD);
        c.due("promise 5: no BOOK", x.count(0), 3);
        c.due("promise 5: the TAPE is empty", x.count(2), 0);
        c.refused("promise 5: 401, one of them CUT by it", x, Checks.change(x, 2, "-a3,a3+1"), 9);
        c.refused("promise 5: WRONG ahead of 9", x, Checks.change(x, 2, "a3+1,"), 2);
        String[] faults = {"a3+1,-ll1", "a3+1,a4+5", "a3+1,a1+1"};
        for (int f = 0; f < 3; f++) {
            c.refused("promise 5: FAULT ahead of 9", x, Checks.change(x, 2, faults[f]), 4);
            c.due("promise 9: of '" + faults[f] + "'", x.fault(), f + 4);
        }
        c.refused("promise 5: 1 ahead of 9", x, Checks.change(x, 3, "a3+1"), 1);
        c.taken("promise 5: to CUT and to REPLACE needs no room", x, Checks.change(x, 2, "=a3,-a4"), 3);
        c.refused("promise 5: 401", x, Checks.change(x, 0, "a1+4,a2+1"), 9);
        c.taken("promise 5: 400", x, Checks.change(x, 0, "a1+4"), 4);
    }

    /** 8 BOOKS at most, by book() and by change(). */
    private static void mostBooks(Checks c) {
        Subject x = new Subject();
        c.taken("Terms 2: BOOK 0", x, Checks.book(x, "a8"), 0);
        for (int i = 1; i < 8; i++) {
            c.taken("Terms 2: BOOK " + i, x, i % 2 == 0 ? Checks.book(x, "b8") : Checks.change(x, i - 1, i == 1 ? "=a1" : "=b1"), i);
            c.due("promise 10: BOOKS", x.count(0), i + 1);
        }
        for (int again = 0; again < 2; again++) {
            c.refused("promise 4: the ninth BOOK", x, Checks.book(x, "a8"), 9);
            c.due("promise 9: 9 is no FAULT", x.fault(), 0);
            c.due("promise 8: nor is the text WRONG", x.place(), LeafFormula.BAD);
            c.due("promise 4: the TAPE is empty", x.count(2), 0);
            c.refused("promise 5: the ninth BOOK", x, Checks.change(x, 0, "-a2"), 9);
            c.due("promise 5: the TAPE is empty", x.count(2), 0);
            c.due("promise 10: BOOKS", x.count(0), 8);
        }
        c.refused("promise 5: 1 ahead of 9", x, Checks.change(x, 8, "-a2"), 1);
        c.taken("promise 6: the last BOOK", x, Checks.copy(x, 7, "b1"), 0);
        c.taken("promise 7: the last BOOK", x, Checks.find(x, 7, "b8"), 7);
        c.due("promise 15: the last BOOK", Checks.written(x, 7), "b8(=b1)");
        c.due("promise 15: the first BOOK", Checks.written(x, 0), "a8");
    }
}

/** Promises 11 to 17: GATHERINGS, LEAVES, how BOOKS are WRITTEN, NAMES. */
public final class BookTest {
    public static void main(String[] args) {
        Checks c = new Checks("BookTest");
        gatherings(c);
        leaves(c);
        conjugates(c);
        written(c);
        names(c);
        same(c);
        c.finish();
    }

    private static Subject sample() {
        Subject x = new Subject();
        Checks.book(x, "pi1 a-b4,2(-a2,a2+2,=a3,b2+1) chi2(-chi1,-chi2)");
        return x;
    }

    private static void gatherings(Checks c) {
        Subject x = sample();
        c.taken("promise 11: gatherings", x, x.gatherings(0), 4);
        c.refused("promise 11: gatherings(1)", x, x.gatherings(1), 1);
        c.refused("promise 11: gatherings(-1)", x, x.gatherings(-1), 1);
        int[][] due = {{0, 1, 1, 0}, {1, 4, 5, 1}, {2, 2, 3, 0}, {70, 2, 0, 2}};
        for (int g = 0; g < 4; g++) {
            for (int what = 0; what < 4; what++) {
                c.taken("promise 12: gathering(0, " + g + ", " + what + ")", x, x.gathering(0, g, what), due[g][what]);
            }
            c.refused("promise 12: what 4", x, x.gathering(0, g, 4), 3);
            c.refused("promise 12: what -1", x, x.gathering(0, g, -1), 3);
        }
        c.refused("promise 12: g 4", x, x.gathering(0, 4, 0), 1);
        c.refused("promise 12: g -1", x, x.gathering(0, -1, 0), 1);
        c.refused("promise 12: book 1", x, x.gathering(1, 0, 0), 1);
        c.refused("promise 12: 1 ahead of 3", x, x.gathering(0, 4, 9), 1);
        c.refused("promise 12: 1 ahead of 3", x, x.gathering(8, 0, 9), 1);
    }

    private static void leaves(Checks c) {
        Subject x = sample();
        c.taken("promise 13: leaves", x, x.leaves(0), 9);
        c.refused("promise 13: leaves(1)", x, x.leaves(1), 1);
        c.refused("promise 13: leaves(-1)", x, x.leaves(-1), 1);
        int[][] due = {
            {0, 1, 0, 0, -1},
            {1, 1, 0, 0, 5}, {1, 2, 2, 1, -1}, {1, 2, 2, 2, -1}, {1, 3, 1, 0, -1}, {1, 4, 0, 0, 1},
            {2, 1, 0, 0, 7}, {2, 2, 0, 0, 6}, {2, 2, 2, 1, -1}
        };
        for (int place = 0; place < 9; place++) {
            for (int what = 0; what < 5; what++) {
                c.taken("promise 14: leaf(0, " + place + ", " + what + ")", x, x.leaf(0, place, what), due[place][what]);
            }
            c.refused("promise 14: what 5", x, x.leaf(0, place, 5), 3);
            c.refused("promise 14: what -1", x, x.leaf(0, place, -1), 3);
        }
        c.refused("promise 14: place 9", x, x.leaf(0, 9, 0), 1);
        c.refused("promise 14: place -1", x, x.leaf(0, -1, 0), 1);
        c.refused("promise 14: book 1", x, x.leaf(1, 0, 0), 1);
        c.refused("promise 14: 1 ahead of 3", x, x.leaf(0, 9, 7), 1);
        Checks.book(x, "a1(-a1)");
        c.taken("promise 13: a BOOK without LEAVES", x, x.leaves(1), 0);
        c.refused("promise 14: none of them", x, x.leaf(1, 0, 0), 1);
    }

    private static void conjugates(Checks c) {
        Subject x = new Subject();
        Checks.book(x, "a8 b1 c12(-c1,=c2,c3+1)");
        for (int i = 1; i <= 8; i++) {
            c.due("promise 14: CONJUGATE of a" + i, x.leaf(0, i - 1, 4), 8 - i);
        }
        c.due("promise 14: of a single leaf", x.leaf(0, 8, 4), -1);
        String[] names = {"c2", "c3", "c3+1", "c4", "c10", "c11", "c12"};
        String[] others = {"", "c10", "", "c9", "c3", "", ""};
        for (int i = 0; i < names.length; i++) {
            int other = others[i].isEmpty() ? -1 : Checks.find(x, 0, others[i]);
            c.due("promise 14: CONJUGATE of " + names[i], x.leaf(0, Checks.find(x, 0, names[i]), 4), other);
        }
    }

    private static void written(Checks c) {
        Subject x = sample();
        String due = "pi1 a4(-a2,a2+2,=a3) b2(b2+1) chi2(-chi1,-chi2)";
        for (int k = 0; k < due.length(); k++) {
            c.taken("promise 15: letter " + k, x, x.letter(0, k), due.charAt(k));
        }
        c.refused("promise 15: behind the last", x, x.letter(0, due.length()), 1);
        c.refused("promise 15: letter -1", x, x.letter(0, -1), 1);
        c.refused("promise 15: book 1", x, x.letter(1, 0), 1);
        Checks.book(x, "a4 b4(=b2,-b1,b1+3,b4+1) c-d4(-d1,c4+1,=c1)");
        c.due("promise 15: CHANGES by GATHERINGS, then i", Checks.written(x, 1),
            "a-d4(-b1,b1+3,=b2,b4+1,=c1,c4+1,-d1)");
        Checks.book(x, "x-bb12(aa10+1) cc-ee10,2 ff2 zzz2 chi2");
        c.due("promise 15: as many as can", Checks.written(x, 2), "x-bb12(aa10+1) cc10 dd2 ee10 ff2 zzz2 chi2");
    }

    private static void names(Checks c) {
        Subject x = new Subject();
        Checks.book(x, "pi2 b1(-b1,b1+2) bb2 bbb12(=bbb10,bbb10+4) chi2");
        String[] due = {"pi1", "pi2", "b1+1", "b1+2", "bb1", "bb2", "bbb1"};
        for (int place = 0; place < due.length; place++) {
            for (int k = 0; k < due[place].length(); k++) {
                c.taken("promise 16: name " + due[place], x, x.name(0, place, k), due[place].charAt(k));
            }
            c.refused("promise 16: behind " + due[place], x, x.name(0, place, due[place].length()), 1);
            c.refused("promise 16: ahead of " + due[place], x, x.name(0, place, -1), 1);
        }
        c.due("promise 16: a REPLACED one", Checks.name(x, 0, 15), "bbb10");
        c.due("promise 16: an INSERTED one", Checks.name(x, 0, 19), "bbb10+4");
        c.due("promise 16: the last one", Checks.name(x, 0, 23), "chi2");
        c.refused("promise 16: place 24", x, x.name(0, 24, 0), 1);
        c.refused("promise 16: place -1", x, x.name(0, -1, 0), 1);
        c.refused("promise 16: book 1", x, x.name(1, 0, 0), 1);
    }

    private static void same(Checks c) {
        Subject x = new Subject();
        Checks.book(x, "a8 b8(-b1)");
        Checks.book(x, "a-b 08 ( - b01 )");
        Checks.book(x, "a-b8");
        Checks.change(x, 2, "-b1");
        Checks.book(x, "a-b8(=b1)");
        c.taken("promise 17: same(0, 0)", x, x.same(0, 0), 1);
        c.taken("promise 17: same(0, 1)", x, x.same(0, 1), 1);
        c.taken("promise 17: same(3, 1)", x, x.same(3, 1), 1);
        c.taken("promise 17: same(0, 2)", x, x.same(0, 2), 0);
        c.taken("promise 17: same(0, 4)", x, x.same(0, 4), 0);
        c.refused("promise 17: same(0, 5)", x, x.same(0, 5), 1);
        c.refused("promise 17: same(5, 0)", x, x.same(5, 0), 1);
        c.refused("promise 17: same(-1, 0)", x, x.same(-1, 0), 1);
    }
}

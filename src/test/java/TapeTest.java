/** Promises 1, 2, 3, 10 and 27: a new object, the TAPE, count and status. */
public final class TapeTest {
    public static void main(String[] args) {
        Checks c = new Checks("TapeTest");
        newObject(c);
        feeding(c);
        ending(c);
        counting(c);
        c.finish();
    }

    private static void newObject(Checks c) {
        Subject x = new Subject();
        c.due("BAD", LeafFormula.BAD, -9);
        c.due("promise 27: status() ahead of any call", x.status(), 0);
        c.due("promise 8: place() ahead of a text", x.place(), LeafFormula.BAD);
        c.due("promise 9: fault() ahead of a text", x.fault(), 0);
        c.due("promise 27: status() behind place() and fault()", x.status(), 0);
        c.taken("promise 1: count(0)", x, x.count(0), 0);
        c.taken("promise 1: count(1)", x, x.count(1), 0);
        c.taken("promise 1: count(2)", x, x.count(2), 0);
        c.refused("promise 1: leaves(0)", x, x.leaves(0), 1);
        c.refused("promise 1: state(0, 0)", x, x.state(0, 0), 1);
    }

    private static void feeding(Checks c) {
        Subject x = new Subject();
        // a1 to a4 are bytes of one int, the highest first; a b with its high bit set begins no PIECE
        int word = 'a' << 24 | '1' << 16 | ' ' << 8 | 'b';
        c.taken("promise 2: feed", x, x.feed(word, '2' << 24 | 0x202020, 0x20202020, 0x20202020, 0x20202020), 20);
        c.taken("promise 4: book of what was fed", x, x.book(), 0);
        c.due("promise 15: the bytes in their order", Checks.written(x, 0), "a1 b2");
        for (int i = 1; i <= 6; i++) {
            c.taken("promise 2: feed " + i, x, x.feed(0x20202020, -1, 0, Integer.MIN_VALUE, 7), 20 * i);
        }
        c.refused("promise 2: feed of the 121st byte", x, x.feed(0, 0, 0, 0, 0), 9);
        c.taken("promise 2: a refused feed changes nothing", x, x.count(2), 120);
        c.taken("promise 3: end(101)", x, x.end(101), 101);
        c.refused("promise 2: 101 and 20 are too many", x, x.feed(0, 0, 0, 0, 0), 9);
        c.taken("promise 3: end(100)", x, x.end(100), 100);
        c.taken("promise 2: 100 and 20 are not", x, x.feed(0, 0, 0, 0, 0), 120);
        c.refused("a text of high bytes is WRONG", x, x.book(), 2);
        c.due("promise 8: at the first byte that is no BLANK", x.place(), 4);
    }

    private static void ending(Checks c) {
        Subject x = new Subject();
        c.taken("promise 3: end(0) of nothing", x, x.end(0), 0);
        c.refused("promise 3: end(1) of nothing", x, x.end(1), 3);
        Checks.tape(x, "a8 b8");
        c.refused("promise 3: end(-1)", x, x.end(-1), 3);
        c.refused("promise 3: end(6) of 5", x, x.end(6), 3);
        c.refused("promise 3: end of the least int", x, x.end(Integer.MIN_VALUE), 3);
        c.refused("promise 3: end of the greatest int", x, x.end(Integer.MAX_VALUE), 3);
        c.taken("promise 3: refused ones change nothing", x, x.count(2), 5);
        c.taken("promise 3: end(5) of 5", x, x.end(5), 5);
        c.taken("promise 3: end(2)", x, x.end(2), 2);
        c.taken("promise 4: the first bytes are kept", x, x.book(), 0);
        c.due("promise 15: of them", Checks.written(x, 0), "a8");
    }

    private static void counting(Checks c) {
        Subject x = new Subject();
        Checks.book(x, "a8");
        Checks.book(x, "b8");
        Checks.copy(x, 0, "a1");
        Checks.tape(x, "a8 b");
        c.taken("promise 10: count(0)", x, x.count(0), 2);
        c.taken("promise 10: count(1)", x, x.count(1), 1);
        c.taken("promise 10: count(2)", x, x.count(2), 4);
        c.refused("promise 10: count(3)", x, x.count(3), 3);
        c.refused("promise 10: count(-1)", x, x.count(-1), 3);
        c.due("promise 27: place() is no call of STATUS", x.place() + x.status(), LeafFormula.BAD + 3);
        c.due("promise 27: fault() is none", x.fault() + x.status(), 3);
        c.due("promise 27: status() is none", x.status(), 3);
        c.taken("promise 27: a taken call sets it to 0", x, x.count(0), 2);
    }
}

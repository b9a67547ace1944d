import java.util.NoSuchElementException;

/** Promises 41 to 45: SUMS of PAULIS, LADDERS, and whether all TERMS commute. */
public final class SumsTest {
    private static final Check CHECK = new Check("sums");

    public static void main(String[] args) {
        terms();
        products();
        halves();
        ladders();
        limits();
        questions();
        CHECK.end();
    }

    private static void term(RootHouse h, int i, long... due) {
        CHECK.row("TERM " + i, w -> h.told(i, w), 0, due);
    }

    private static void terms() {
        RootHouse h = new RootHouse();
        CHECK.same("one", h.term(1, 2, 3, -4), 1);
        CHECK.same("two, the lesser first", h.term(0, 255, 0, 5), 2);
        term(h, 0, 0, 255, 0, 5, 0);
        term(h, 1, 1, 2, 3, -4, 0);
        CHECK.same("nothing more", h.term(9, 9, 0, 0), 2);
        CHECK.same("together", h.term(1, 2, 1, 1), 2);
        term(h, 1, 1, 2, 4, -3, 0);
        CHECK.same("gone", h.term(0, 255, 0, -5), 1);
        CHECK.same("the edges", h.term(255, 0, 1000000, -1000000), 2);
        CHECK.same("too great", h.term(255, 0, 1, 0), -1);
        CHECK.same("no such set", h.term(256, 0, 1, 0), -1);
        CHECK.same("no such set", h.term(-1, 0, 1, 0), -1);
        CHECK.same("no such set", h.term(0, 256, 1, 0), -1);
        CHECK.same("no such set", h.term(0, -1, 1, 0), -1);
        CHECK.same("no such number", h.term(0, 0, 1000001, 0), -1);
        CHECK.same("no such number", h.term(0, 0, 0, -1000001), -1);
        term(h, 1, 255, 0, 1000000, -1000000, 0);
        CHECK.same("conjugates", h.sum(7), 2);
        term(h, 0, 1, 2, 4, 3, 0);
        term(h, 1, 255, 0, 1000000, 1000000, 0);
        CHECK.same("1 alone", h.sum(0), 1);
        term(h, 0, 0, 0, 1, 0, 0);
        CHECK.same("none", h.sum(1), 0);
        CHECK.same("no such how", h.sum(8), -1);
        CHECK.same("no such how", h.sum(-1), -1);
    }

    private static void products() {
        RootHouse h = new RootHouse();
        h.term(0, 1, 1, 0);
        h.sum(2);
        h.term(1, 0, 1, 0);
        CHECK.same("x z", h.sum(5), 1);
        term(h, 0, 1, 1, 0, -1, 0);
        h.sum(1);
        h.term(1, 0, 1, 0);
        CHECK.same("z x", h.sum(6), 1);
        term(h, 0, 1, 1, 0, 1, 0);
        CHECK.same("y z is i x", h.sum(5), 1);
        term(h, 0, 1, 0, -1, 0, 0);
        CHECK.same("with z", h.sum(3), 2);
        CHECK.same("without z again", h.sum(4), 1);
        CHECK.same("they change places", h.sum(2), 1);
        term(h, 0, 0, 1, 1, 0, 0);
        RootHouse g = new RootHouse();
        CHECK.same("nothing and nothing", g.sum(5), 0);
        g.sum(0);
        CHECK.same("times nothing", g.sum(5), 0);
    }

    private static void halves() {
        RootHouse h = new RootHouse();
        h.sum(0);
        CHECK.same("lowering", h.ladder(0, false), 2);
        term(h, 0, 1, 0, 1, 0, 1);
        term(h, 1, 1, 1, 0, 1, 1);
        h.sum(2);
        h.sum(0);
        CHECK.same("raising", h.ladder(0, true), 2);
        term(h, 1, 1, 1, 0, -1, 1);
        CHECK.same("both are x", h.sum(3), 1);
        term(h, 0, 1, 0, 1, 0, 0);
        CHECK.same("x less lowering is raising", h.sum(4), 2);
        CHECK.same("raising times lowering", h.sum(5), 2);
        term(h, 0, 0, 0, 1, 0, 1);
        term(h, 1, 0, 1, -1, 0, 1);
    }

    private static void ladders() {
        RootHouse h = new RootHouse();
        h.sum(0);
        CHECK.same("of WIRE 2", h.ladder(2, true), 2);
        term(h, 0, 4, 3, 1, 0, 1);
        term(h, 1, 4, 7, 0, -1, 1);
        CHECK.same("twice is nothing", h.ladder(2, true), 0);
        CHECK.same("nothing stays nothing", h.ladder(1, true), 0);
        CHECK.same("no such WIRE", h.ladder(8, true), -1);
        CHECK.same("no such WIRE", h.ladder(-1, true), -1);
        for (int j = 0; j < 8; j++) {
            for (int l = 0; l < 8; l++) {
                anticommute(j, l);
            }
        }
    }

    /** The LADDER of j up and of l down: in both orders together 1 if they are the same WIRE, else 0. */
    private static void anticommute(int j, int l) {
        RootHouse h = new RootHouse();
        h.sum(0);
        h.ladder(j, true);
        h.ladder(l, false);
        h.sum(2);
        h.sum(0);
        h.ladder(l, false);
        h.ladder(j, true);
        CHECK.same(j + " and " + l, h.sum(3), j == l ? 1 : 0);
        if (j == l) {
            term(h, 0, 0, 0, 1, 0, 0);
        }
    }

    private static void limits() {
        RootHouse h = new RootHouse();
        for (int i = 0; i < 150; i++) {
            CHECK.same("as many", h.term(i, 7, 1, 0), i + 1);
        }
        CHECK.same("151", h.term(200, 7, 1, 0), -1);
        CHECK.same("one of them", h.term(149, 7, 1, 0), 150);
        h.sum(2);
        h.term(200, 7, 1, 0);
        CHECK.same("151 together", h.sum(3), -1);
        CHECK.same("as it was", h.total(6), 1);
        CHECK.same("150 times one", h.sum(5), 150);
        RootHouse g = new RootHouse();
        g.term(1, 0, 1000, 0);
        g.sum(2);
        g.term(2, 0, 1000, 0);
        CHECK.same("just a million", g.sum(5), 1);
        CHECK.same("too great", g.sum(5), -1);
        term(g, 0, 3, 0, 1000000, 0, 0);
        RootHouse f = new RootHouse();
        f.sum(0);
        for (int i = 0; i < 7; i++) {
            CHECK.same("twice as many", f.ladder(i, true), 2 << i);
        }
        CHECK.same("256 are too many", f.ladder(7, true), -1);
        CHECK.same("seven halves", f.told(0, 4), 7);
        numbersOverTwo();
        manyThatCancel();
    }

    /** (1 + z) P times (1 - z) Q is nothing, though thousands of PAULIS come up on the way. */
    private static void manyThatCancel() {
        RootHouse h = new RootHouse();
        for (int sign = -1; sign <= 1; sign += 2) {
            h.sum(2);
            for (int i = 0; i < 70; i++) {
                int xs = 2 * (i * (sign + 7) % 128);
                h.term(xs, 2 * i, 1, 0);
                CHECK.same("in pairs", h.term(xs, 2 * i + 1, sign, 0), 2 * i + 2);
            }
        }
        CHECK.same("all of it cancels", h.sum(5), 0);
        CHECK.same("B stays", h.total(7), 140);
        h.sum(0);
        CHECK.same("nothing is left of it", h.sum(5), 140);
        for (int i = 0; i < 140; i++) {
            CHECK.same("a number of it", Math.abs(h.told(i, 2)), 1);
        }
    }

    /** What is over 1 comes to what is over 2 as twice as much. */
    private static void numbersOverTwo() {
        RootHouse h = new RootHouse();
        h.sum(0);
        h.ladder(0, false);
        CHECK.same("1999998 halves are refused", h.term(0, 0, 999999, 0), -1);
        CHECK.same("1000000 halves are not", h.term(0, 0, 500000, 0), 3);
        CHECK.row("its number", w -> h.told(0, w), 2, 1000000, 0, 1);
    }

    private static void questions() {
        RootHouse h = new RootHouse();
        CHECK.fails("no TERMS", NoSuchElementException.class, () -> h.told(0, 0));
        h.term(1, 0, 1, 0);
        CHECK.fails("no such TERM", NoSuchElementException.class, () -> h.told(1, 0));
        CHECK.fails("no such TERM", NoSuchElementException.class, () -> h.told(-1, 0));
        CHECK.fails("no such what", NoSuchElementException.class, () -> h.told(0, 5));
        CHECK.fails("no such what", NoSuchElementException.class, () -> h.told(0, -1));
        CHECK.yes("B has none", h.commutes());
        h.sum(2);
        h.term(0, 1, 1, 0);
        CHECK.no("x and z", h.commutes());
        h.sum(1);
        h.term(2, 3, 1, 0);
        CHECK.no("one of two WIRES", h.commutes());
        h.sum(1);
        h.term(1, 0, 7, 0);
        h.term(4, 6, 7, 0);
        CHECK.yes("x and others", h.commutes());
        h.term(0, 1, 7, 0);
        CHECK.no("one of three", h.commutes());
        for (int i = 0; i < 256; i++) {
            pair(i & 3, i >> 2 & 3, i >> 4 & 3, i >> 6);
        }
    }

    /** Two PAULIS commute if they differ, both being some, on an even number of WIRES. */
    private static void pair(int x1, int z1, int x2, int z2) {
        RootHouse h = new RootHouse();
        h.term(x1 << 6, z1 << 6, 1, 0);
        h.sum(2);
        h.term(x2 << 6, z2 << 6, 1, 0);
        int differ = 0;
        for (int i = 0; i < 2; i++) {
            int one = (x1 >> i & 1) + 2 * (z1 >> i & 1);
            int two = (x2 >> i & 1) + 2 * (z2 >> i & 1);
            differ += one != 0 && two != 0 && one != two ? 1 : 0;
        }
        CHECK.same(x1 + " " + z1 + " and " + x2 + " " + z2, h.commutes() ? 0 : 1, differ % 2);
    }
}

/** Bounds of SUMS: 'XI' and promises 41 to 45. */
public final class BoundsSumsTest {
    private static final Check CHECK = new Check("bounds of sums");
    private static final int MILLION = 1000000;

    public static void main(String[] args) {
        hows();
        sets();
        numbersOfTerms();
        bothMayBe0();
        termsThatGo();
        atMost150();
        addedAtMost150();
        multipliedAtMost150();
        greatestAdded();
        greatestMultiplied();
        workedOutWholly();
        leastHalves();
        noTermsOverOne();
        laddersOf8();
        ladderIsRefused();
        orderOfTerms();
        conjugates();
        changedPlaces();
        toldTerms();
        commuting();
        greatestSets();
        shorterOnes();
        all150();
        CHECK.end();
    }

    private static void told(RootHouse h, int i, long... due) {
        CHECK.row("TERM " + i, what -> h.told(i, what), 0, due);
    }

    /** The PAULI with all x's and z's is the last one of all. */
    private static void greatestSets() {
        RootHouse h = new RootHouse();
        h.sum(0);
        h.ladder(3, true);
        h.sum(2);
        h.term(255, 255, 5, 0);
        CHECK.same("behind the others", h.sum(3), 3);
        told(h, 2, 255, 255, 10, 0, 1);
        CHECK.same("with one more", h.term(0, 0, 1, 0), 4);
        told(h, 3, 255, 255, 10, 0, 1);
        RootHouse g = new RootHouse();
        g.term(255, 255, 2, 0);
        g.sum(2);
        g.term(255, 255, 3, 0);
        CHECK.same("together", g.sum(3), 1);
        told(g, 0, 255, 255, 5, 0, 0);
        CHECK.same("its square", g.sum(5), 1);
        told(g, 0, 0, 0, 10, 0, 0);
        CHECK.same("times it", g.sum(5), 1);
        told(g, 0, 255, 255, 20, 0, 0);
        CHECK.same("it times that", g.sum(6), 1);
        told(g, 0, 0, 0, 40, 0, 0);
        RootHouse f = new RootHouse();
        f.term(255, 0, 1, 0);
        f.sum(2);
        f.term(0, 0, 1, 0);
        f.term(255, 0, 1, 0);
        f.term(1, 0, 1, 0);
        CHECK.same("times all x's", f.sum(5), 3);
        told(f, 0, 0, 0, 1, 0, 0);
        told(f, 1, 254, 0, 1, 0, 0);
        told(f, 2, 255, 0, 1, 0, 0);
        f.sum(2);
        CHECK.same("all x's times that", f.sum(5), 3);
        told(f, 1, 1, 0, 1, 0, 0);
    }

    /** What was there and is gone counts for nothing. */
    private static void shorterOnes() {
        RootHouse h = new RootHouse();
        h.term(1, 0, 7, 7);
        h.term(255, 255, 9, 9);
        h.term(255, 255, -9, -9);
        h.sum(2);
        h.term(255, 255, 1, 0);
        h.term(0, 0, 1, 0);
        CHECK.same("three", h.sum(3), 3);
        told(h, 2, 255, 255, 1, 0, 0);
        CHECK.same("two", h.sum(4), 2);
        told(h, 1, 255, 255, 1, 0, 0);
        CHECK.same("no x's and z's together", h.sum(5), 2);
        RootHouse g = new RootHouse();
        g.term(1, 0, 1, 0);
        g.term(2, 0, 1, 0);
        g.term(2, 0, -1, 0);
        g.sum(2);
        g.term(0, 2, 1, 0);
        g.term(0, 3, 1, 0);
        g.term(0, 3, -1, 0);
        CHECK.yes("those that are there commute", g.commutes());
        g.sum(2);
        CHECK.yes("those that are there commute", g.commutes());
    }

    /** All 150 of both count. */
    private static void all150() {
        RootHouse h = new RootHouse();
        for (int i = 0; i < 149; i++) {
            h.term(0, i, 1, 1);
        }
        h.term(128, 0, 1, 1);
        h.sum(2);
        for (int i = 0; i < 149; i++) {
            h.term(0, 2 * (i % 64), 1 + i, -1);
        }
        CHECK.yes("z's below the last", h.commutes() == (h.total(6) <= 64));
        CHECK.same("64", h.total(6), 64);
        h.term(0, 255, 1, 0);
        CHECK.no("the last one of A, the last one of B", h.commutes());
        h.sum(2);
        CHECK.no("the last one of A, the last one of B", h.commutes());
        CHECK.same("150", h.sum(7), 150);
        told(h, 0, 0, 0, 1, -1, 0);
        told(h, 149, 128, 0, 1, -1, 0);
        h.sum(2);
        h.sum(1);
        CHECK.yes("none", h.commutes());
        CHECK.same("150 come", h.sum(3), 150);
        CHECK.same("150 with 150", h.sum(3), 150);
        told(h, 149, 128, 0, 2, -2, 0);
        CHECK.same("as great as they are", h.sum(4), 150);
        h.sum(2);
        CHECK.no("x and z", h.commutes());
    }

    /** A row of different TERMS, the first one of number from. */
    private static void fill(RootHouse h, int from, int count) {
        for (int i = from; i < from + count; i++) {
            h.term(i / 100, i % 100, 1, 0);
        }
    }

    /** sum: "NONE, changing nothing, for another how" */
    private static void hows() {
        for (int how : new int[] {Integer.MIN_VALUE, -2, -1, 8, 9, Integer.MAX_VALUE}) {
            RootHouse h = new RootHouse();
            h.term(1, 2, 3, 4);
            h.sum(2);
            h.term(5, 6, 7, 8);
            CHECK.same("another how", h.sum(how), -1);
            told(h, 0, 5, 6, 7, 8, 0);
            CHECK.same("B", h.sum(2), 1);
            told(h, 0, 1, 2, 3, 4, 0);
        }
        RootHouse h = new RootHouse();
        CHECK.only("how", h::sum, 0, 7);
        RootHouse g = new RootHouse();
        CHECK.row("of nothing", g::sum, 1, 0, 0, 0, 0, 0, 0, 0);
        CHECK.same("1 alone", g.sum(0), 1);
        told(g, 0, 0, 0, 1, 0, 0);
    }

    /** term: "(xs, zs sets of 8 WIRES)"; "NONE, changing nothing, if there are no such sets" */
    private static void sets() {
        RootHouse h = new RootHouse();
        CHECK.only("x's", xs -> h.term(xs, 0, 1, 0), 0, 255);
        CHECK.only("z's", zs -> h.term(0, zs, 1, 0), 0, 255);
        RootHouse g = new RootHouse();
        g.term(255, 255, 1, 0);
        for (int[] call : new int[][] {{256, 0}, {0, 256}, {-1, 0}, {0, -1}, {Integer.MIN_VALUE, 0}, {0, Integer.MIN_VALUE}, {511, 0}, {0, 511}}) {
            CHECK.same("refused", g.term(call[0], call[1], 1, 0), -1);
            CHECK.same("as it was", g.total(6), 1);
            told(g, 0, 255, 255, 1, 0, 0);
        }
    }

    /** "(p, q -1000000 .. 1000000 ...)" */
    private static void numbersOfTerms() {
        for (int number : new int[] {-MILLION, -MILLION + 1, MILLION - 1, MILLION}) {
            RootHouse h = new RootHouse();
            CHECK.same("p", h.term(1, 0, number, 0), 1);
            CHECK.same("q", h.term(2, 0, 0, number), 2);
            told(h, 0, 1, 0, number, 0, 0);
            told(h, 1, 2, 0, 0, number, 0);
        }
        for (int number : new int[] {-MILLION - 1, MILLION + 1, Integer.MIN_VALUE, Integer.MAX_VALUE, -MILLION - 2, MILLION + 2}) {
            RootHouse h = new RootHouse();
            h.term(1, 0, -number > 0 ? 5 : -5, 5);
            CHECK.same("p", h.term(1, 0, number, 0), -1);
            CHECK.same("q", h.term(2, 0, 0, number), -1);
            CHECK.same("both", h.term(3, 0, number, number), -1);
            CHECK.same("as it was", h.total(6), 1);
        }
    }

    /** "both may be 0" */
    private static void bothMayBe0() {
        RootHouse h = new RootHouse();
        CHECK.same("nothing", h.term(1, 2, 0, 0), 0);
        h.term(1, 2, 3, 4);
        CHECK.same("as it was", h.term(1, 2, 0, 0), 1);
        CHECK.same("as it was", h.term(9, 9, 0, 0), 1);
        told(h, 0, 1, 2, 3, 4, 0);
        fill(h, 1000, 149);
        CHECK.same("150", h.total(6), 150);
        CHECK.same("nothing more", h.term(200, 200, 0, 0), 150);
        CHECK.same("no such set", h.term(256, 0, 0, 0), -1);
    }

    /** "not both 0": a TERM that comes to 0 is gone. */
    private static void termsThatGo() {
        RootHouse h = new RootHouse();
        h.term(1, 2, 3, 4);
        h.term(2, 2, 1, 0);
        CHECK.same("q is left", h.term(1, 2, -3, 0), 2);
        told(h, 0, 1, 2, 0, 4, 0);
        CHECK.same("gone", h.term(1, 2, 0, -4), 1);
        told(h, 0, 2, 2, 1, 0, 0);
        CHECK.same("all gone", h.term(2, 2, -1, 0), 0);
        CHECK.same("none", Check.said(() -> h.told(0, 0)), "NoSuchElementException");
    }

    /** "each of at most 150 TERMS" */
    private static void atMost150() {
        RootHouse h = new RootHouse();
        for (int i = 0; i < 150; i++) {
            CHECK.same("TERMS", h.term(255 - i, i, 1, 0), i + 1);
        }
        CHECK.same("151", h.term(0, 255, 1, 0), -1);
        CHECK.same("150", h.total(6), 150);
        CHECK.same("one of them grows", h.term(255, 0, 1, 0), 150);
        CHECK.same("one of them goes", h.term(254, 1, -1, 0), 149);
        CHECK.same("so there is room", h.term(0, 255, 1, 0), 150);
        told(h, 0, 0, 255, 1, 0, 0);
        told(h, 149, 255, 0, 2, 0, 0);
        CHECK.same("no TERM 150", Check.said(() -> h.told(150, 0)), "NoSuchElementException");
    }

    /** "(What would have more TERMS ... is refused.)" */
    private static void addedAtMost150() {
        for (int how = 3; how <= 4; how++) {
            for (int count : new int[] {49, 50, 51}) {
                RootHouse h = new RootHouse();
                fill(h, 0, 100);
                h.sum(2);
                fill(h, 200, count);
                boolean fits = count <= 50;
                CHECK.same("100 and " + count, h.sum(how), fits ? 100 + count : -1);
                CHECK.same("A", h.total(6), fits ? 100 + count : count);
                CHECK.same("B", h.total(7), 100);
            }
        }
        RootHouse h = new RootHouse();
        fill(h, 0, 150);
        h.sum(2);
        fill(h, 0, 150);
        CHECK.same("the same ones", h.sum(3), 150);
        told(h, 149, 1, 49, 2, 0, 0);
        CHECK.same("less these", h.sum(4), 150);
        CHECK.same("less these: none", h.sum(4), 0);
        CHECK.same("B stays", h.total(7), 150);
    }

    /** A times B, and B times A */
    private static void multipliedAtMost150() {
        for (int how = 5; how <= 6; how++) {
            for (int count : new int[] {14, 15, 16}) {
                RootHouse h = new RootHouse();
                for (int i = 0; i < 10; i++) {
                    h.term(i, 0, 1, 0);
                }
                h.sum(2);
                for (int i = 0; i < count; i++) {
                    h.term(16 * i, 0, 1, 0);
                }
                boolean fits = count <= 15;
                CHECK.same("10 times " + count, h.sum(how), fits ? 10 * count : -1);
                CHECK.same("A", h.total(6), fits ? 10 * count : count);
                CHECK.same("B", h.total(7), 10);
            }
        }
    }

    /** "greater numbers" */
    private static void greatestAdded() {
        for (int sign = -1; sign <= 1; sign += 2) {
            RootHouse h = new RootHouse();
            h.term(1, 1, sign * (MILLION - 1), 0);
            h.term(2, 1, 0, sign * (MILLION - 1));
            CHECK.same("a million", h.term(1, 1, sign, 0), 2);
            CHECK.same("a million", h.term(2, 1, 0, sign), 2);
            CHECK.same("one more", h.term(1, 1, sign, 0), -1);
            CHECK.same("one more", h.term(2, 1, 0, sign), -1);
            told(h, 0, 1, 1, sign * MILLION, 0, 0);
            told(h, 1, 2, 1, 0, sign * MILLION, 0);
            h.sum(2);
            h.term(1, 1, sign, 0);
            CHECK.same("together one more", h.sum(3), -1);
            CHECK.same("without it", h.sum(4), 2);
            told(h, 0, 1, 1, -sign * (MILLION - 1), 0, 0);
            told(h, 1, 2, 1, 0, -sign * MILLION, 0);
        }
        RootHouse h = new RootHouse();
        h.term(1, 1, MILLION, 0);
        h.sum(2);
        h.term(1, 1, -MILLION, 0);
        CHECK.same("two millions", h.sum(4), -1);
        told(h, 0, 1, 1, -MILLION, 0, 0);
        CHECK.same("nothing", h.sum(3), 0);
    }

    /** of a product */
    private static void greatestMultiplied() {
        for (int how = 5; how <= 6; how++) {
            for (int number : new int[] {999, 1000, 1001, -1000, -1001}) {
                RootHouse h = new RootHouse();
                h.term(1, 0, 1000, 0);
                h.sum(2);
                h.term(2, 0, number, 0);
                boolean fits = Math.abs(number) <= 1000;
                CHECK.same("1000 times " + number, h.sum(how), fits ? 1 : -1);
                told(h, 0, fits ? 3 : 2, 0, fits ? 1000 * number : number, 0, 0);
            }
        }
        RootHouse h = new RootHouse();
        h.term(1, 0, MILLION, MILLION);
        h.sum(2);
        h.term(1, 0, MILLION, MILLION);
        CHECK.same("far too great", h.sum(5), -1);
        told(h, 0, 1, 0, MILLION, MILLION, 0);
        RootHouse g = new RootHouse();
        g.term(0, 0, 1, 1);
        g.sum(2);
        g.term(0, 0, 500000, 500000);
        CHECK.same("p goes, q is a million", g.sum(5), 1);
        told(g, 0, 0, 0, 0, MILLION, 0);
        CHECK.same("p and q a million", g.sum(5), 1);
        told(g, 0, 0, 0, -MILLION, MILLION, 0);
        CHECK.same("two millions", g.sum(5), -1);
    }

    /** "when it is worked out wholly" */
    private static void workedOutWholly() {
        RootHouse h = new RootHouse();
        h.term(0, 0, MILLION, 0);
        h.term(0, 1, MILLION, 0);
        h.sum(2);
        h.term(0, 0, MILLION, 0);
        h.term(0, 1, -MILLION, 0);
        CHECK.same("great numbers that cancel", h.sum(5), 0);
        RootHouse g = new RootHouse();
        g.sum(0);
        g.ladder(0, true);
        g.ladder(0, false);
        told(g, 0, 0, 0, 1, 0, 1);
        g.sum(2);
        g.term(0, 0, MILLION, 0);
        g.term(0, 1, -MILLION, 0);
        CHECK.same("twice a million over 2", g.sum(5), 2);
        told(g, 0, 0, 0, MILLION, 0, 0);
        told(g, 1, 0, 1, -MILLION, 0, 0);
        RootHouse f = new RootHouse();
        for (int i = 0; i < 64; i++) {
            f.term(2 * i, 0, 1, 0);
            f.term(2 * i, 1, 1, 0);
        }
        f.sum(2);
        f.term(0, 0, 1, 0);
        f.term(0, 1, 1, 0);
        f.term(128, 0, 1, 0);
        f.term(128, 1, -1, 0);
        CHECK.same("128 come twice, 128 not at all", f.sum(5), 128);
        told(f, 127, 126, 1, 2, 0, 0);
    }

    /** "all over 2^k, one k ... for all, the least that there may be" */
    private static void leastHalves() {
        RootHouse h = new RootHouse();
        h.sum(0);
        for (int j = 0; j < 7; j++) {
            h.ladder(j, true);
            CHECK.same("k", h.told(0, 4), j + 1);
        }
        CHECK.same("k of all", h.told(127, 4), 7);
        for (int j = 6; j >= 0; j--) {
            CHECK.same("up and down again", h.ladder(j, false), 128);
        }
        CHECK.row("k", what -> h.told(0, what), 2, Math.abs(h.told(0, 2)), 0, 7);
        RootHouse e = new RootHouse();
        e.term(0, 0, 1, 1);
        CHECK.same("odd numbers all", e.ladder(0, false), 2);
        told(e, 0, 1, 0, 1, 1, 1);
        told(e, 1, 1, 1, -1, 1, 1);
        RootHouse g = new RootHouse();
        g.term(3, 0, 4, 0);
        g.sum(2);
        g.sum(0);
        g.ladder(0, true);
        CHECK.same("four times halves", g.sum(5), 2);
        told(g, 0, 2, 0, 2, 0, 0);
        RootHouse f = new RootHouse();
        f.sum(0);
        f.ladder(2, true);
        f.term(0, 0, 3, 0);
        told(f, 0, 0, 0, 6, 0, 1);
        told(f, 1, 4, 3, 1, 0, 1);
        f.term(0, 0, -3, 0);
        told(f, 0, 4, 3, 1, 0, 1);
    }

    /** "(0 without TERMS)" */
    private static void noTermsOverOne() {
        RootHouse h = new RootHouse();
        h.sum(0);
        h.ladder(0, true);
        CHECK.same("none", h.ladder(0, true), 0);
        h.term(0, 0, MILLION, 0);
        told(h, 0, 0, 0, MILLION, 0, 0);
        RootHouse g = new RootHouse();
        g.sum(0);
        g.ladder(0, true);
        g.sum(1);
        g.term(0, 0, 1, 0);
        told(g, 0, 0, 0, 1, 0, 0);
        g.ladder(0, true);
        g.sum(0);
        told(g, 0, 0, 0, 1, 0, 0);
        RootHouse f = new RootHouse();
        f.sum(0);
        f.ladder(0, true);
        f.sum(2);
        f.sum(3);
        f.sum(4);
        CHECK.same("none", f.total(6), 0);
        f.term(0, 0, MILLION, 0);
        told(f, 0, 0, 0, MILLION, 0, 0);
    }

    /** ladder: "WIRE j (0 .. 7)" */
    private static void laddersOf8() {
        for (int up = 0; up < 2; up++) {
            boolean is = up == 1;
            CHECK.only("WIRE", j -> {
                RootHouse h = new RootHouse();
                h.sum(0);
                return h.ladder(j, is);
            }, 0, 7);
            for (int j = 0; j < 8; j++) {
                RootHouse h = new RootHouse();
                h.sum(0);
                CHECK.same("two TERMS", h.ladder(j, is), 2);
                told(h, 0, 1 << j, (1 << j) - 1, 1, 0, 1);
                told(h, 1, 1 << j, (2 << j) - 1, 0, is ? -1 : 1, 1);
                CHECK.same("twice is nothing", h.ladder(j, is), 0);
                CHECK.same("of nothing", h.ladder(j, is), 0);
            }
        }
    }

    /** "NONE, changing nothing, if there is no such WIRE, or that is refused" */
    private static void ladderIsRefused() {
        for (int count : new int[] {74, 75, 76}) {
            RootHouse h = new RootHouse();
            for (int i = 0; i < count; i++) {
                h.term(2 * i, 0, 1, 0);
            }
            CHECK.same(count + " TERMS", h.ladder(0, true), count <= 75 ? 2 * count : -1);
            CHECK.same("A", h.total(6), count <= 75 ? 2 * count : count);
            told(h, 0, count <= 75 ? 1 : 0, 0, 1, 0, count <= 75 ? 1 : 0);
        }
        RootHouse h = new RootHouse();
        h.term(0, 0, MILLION, 0);
        h.term(0, 1, 1, 0);
        CHECK.same("a million and one", h.ladder(0, false), -1);
        told(h, 0, 0, 0, MILLION, 0, 0);
        told(h, 1, 0, 1, 1, 0, 0);
        CHECK.same("a million less one", h.ladder(0, true), 2);
        told(h, 0, 1, 0, MILLION - 1, 0, 1);
        CHECK.same("no such WIRE", h.ladder(8, false), -1);
        told(h, 0, 1, 0, MILLION - 1, 0, 1);
    }

    /** "TERMS stand by 256 * x's + z's" */
    private static void orderOfTerms() {
        RootHouse h = new RootHouse();
        int[] keys = {65535, 0, 256, 255, 65280, 257, 32768, 128};
        for (int key : keys) {
            h.term(key >> 8, key & 255, 1 + key, 0);
        }
        java.util.Arrays.sort(keys);
        for (int i = 0; i < keys.length; i++) {
            told(h, i, keys[i] >> 8, keys[i] & 255, 1 + keys[i], 0, 0);
        }
    }

    /** "7: all its numbers' conjugates" */
    private static void conjugates() {
        RootHouse h = new RootHouse();
        CHECK.same("of none", h.sum(7), 0);
        h.term(1, 1, 5, MILLION);
        h.term(2, 1, -5, -MILLION);
        h.term(3, 1, -5, 0);
        CHECK.same("of three", h.sum(7), 3);
        told(h, 0, 1, 1, 5, -MILLION, 0);
        told(h, 1, 2, 1, -5, MILLION, 0);
        told(h, 2, 3, 1, -5, 0, 0);
    }

    /** "2: it and B change places" */
    private static void changedPlaces() {
        RootHouse h = new RootHouse();
        h.sum(0);
        h.ladder(3, true);
        CHECK.same("B had none", h.sum(2), 0);
        CHECK.same("of A", h.total(6), 0);
        CHECK.same("of B", h.total(7), 2);
        h.term(1, 1, 1, 1);
        CHECK.same("back", h.sum(2), 2);
        told(h, 0, 8, 7, 1, 0, 1);
        CHECK.same("of B", h.total(7), 1);
        h.sum(1);
        CHECK.same("A has none, B stays", h.total(7), 1);
        h.sum(2);
        told(h, 0, 1, 1, 1, 1, 0);
    }

    /** told: "NoSuchElementException: there is none such, or for another what" */
    private static void toldTerms() {
        RootHouse none = new RootHouse();
        CHECK.only("TERM of none", i -> none.told(i, 0), 1, 0);
        none.term(1, 1, 1, 1);
        none.sum(2);
        CHECK.same("TERM of B", Check.said(() -> none.told(0, 0)), "NoSuchElementException");
        RootHouse h = new RootHouse();
        fill(h, 0, 3);
        CHECK.only("TERM", i -> h.told(i, 1), 0, 2);
        CHECK.only("what", what -> h.told(1, what), 0, 4);
        fill(h, 3, 147);
        CHECK.only("TERM", i -> h.told(i, 1), 0, 149);
    }

    /** commutes: of no TERMS all do; one pair of all is enough for a no */
    private static void commuting() {
        RootHouse h = new RootHouse();
        CHECK.yes("none and none", h.commutes());
        h.term(1, 0, 1, 0);
        CHECK.yes("one and none", h.commutes());
        h.sum(2);
        CHECK.yes("none and one", h.commutes());
        h.term(128, 0, 1, 0);
        CHECK.yes("x and x", h.commutes());
        h.term(128, 128, 1, 0);
        CHECK.yes("others", h.commutes());
        h.term(0, 1, 1, 0);
        CHECK.no("z and x", h.commutes());
        h.sum(2);
        CHECK.no("x and z", h.commutes());
        RootHouse g = new RootHouse();
        g.term(128, 0, 1, 0);
        g.sum(2);
        g.term(0, 128, 1, 0);
        CHECK.no("of the last WIRE", g.commutes());
        RootHouse f = new RootHouse();
        fill(f, 0, 100);
        f.sum(2);
        fill(f, 0, 50);
        CHECK.yes("z's alone", f.commutes());
        f.sum(2);
        f.term(64, 0, 1, 0);
        CHECK.yes("an x where there are no z's", f.commutes());
        f.sum(2);
        f.term(0, 64, 1, 0);
        CHECK.no("the last with the last", f.commutes());
    }
}

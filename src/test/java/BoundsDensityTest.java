/** Bounds of DENSITIES: 'XII' and promises 46 to 50. */
public final class BoundsDensityTest {
    private static final Check CHECK = new Check("bounds of densities");

    public static void main(String[] args) {
        oneToThreeWires();
        starts();
        refusedBegins();
        mixedOps();
        mixedBits();
        mixedKinds();
        hsAreCounted();
        refusedHsAreNot();
        spoiltWires();
        spoiltBy();
        spoiltSixteenths();
        sixSpoils();
        refusedSpoilsAreNot();
        beginsAnew();
        entries();
        purities();
        powersUpTo50();
        purityIsExact();
        purityOfTheLast();
        resetRoots();
        withoutADensity();
        CHECK.end();
    }

    private static RootHouse house(int wires, int start, String... texts) {
        RootHouse h = new RootHouse();
        for (String text : texts) {
            Check.circuit(h, text);
        }
        CHECK.yes("it begins", h.density(wires, start));
        return h;
    }

    private static void entry(RootHouse h, int i, int j, long... due) {
        CHECK.row("D(" + i + ", " + j + ")", part -> h.entry(i, j, part), 0, due);
    }

    /** density: "of N WIRES (1 .. 3)" */
    private static void oneToThreeWires() {
        RootHouse h = new RootHouse();
        CHECK.only("WIRES", n -> Check.yesOrNone(h.density(n, 0)), 1, 3);
        CHECK.only("WIRES", n -> Check.yesOrNone(h.density(n, 1)), 1, 3);
    }

    /** "false, changing nothing, if there are no such N, start" */
    private static void starts() {
        for (int n : new int[] {1, 2, 3}) {
            RootHouse h = new RootHouse();
            CHECK.only("START of " + n, start -> Check.yesOrNone(h.density(n, start)), 0, (1 << n) - 1);
            for (int start = 0; start < 1 << n; start++) {
                RootHouse g = house(n, start);
                for (int i = 0; i < 1 << n; i++) {
                    for (int j = 0; j < 1 << n; j++) {
                        CHECK.same("D", g.entry(i, j, 0), i == start && j == start ? 1 : 0);
                    }
                }
            }
        }
    }

    private static void refusedBegins() {
        RootHouse h = house(2, 3);
        for (int[] call : new int[][] {{0, 0}, {4, 0}, {-1, 0}, {2, 4}, {2, -1}, {1, 2}, {3, 8}, {Integer.MAX_VALUE, 0}, {Integer.MIN_VALUE, 0}}) {
            CHECK.no("refused", h.density(call[0], call[1]));
            entry(h, 3, 3, 1, 0, 0, 0, 0);
        }
    }

    /** mix: "no such circuit, OP, it has not as many WIRES" */
    private static void mixedOps() {
        for (int n = 1; n <= 3; n++) {
            for (int other = 1; other <= 8; other++) {
                RootHouse h = house(n, 0, other + ":x0;");
                CHECK.same(n + " and " + other, h.mix(0, 0) ? 1 : 0, n == other ? 1 : 0);
                entry(h, n == other ? 1 : 0, n == other ? 1 : 0, 1, 0, 0, 0, 0);
            }
        }
        RootHouse h = house(1, 0, "1:z0;t0;s0;", "1:");
        CHECK.only("OP", i -> Check.yesOrNone(h.mix(0, i)), 0, 2);
        CHECK.only("circuit", c -> Check.yesOrNone(h.mix(c, 0)), 0, 0);
        CHECK.no("no OPS", h.mix(1, 0));
    }

    /** "the OP asks for BITS" */
    private static void mixedBits() {
        RootHouse h = house(1, 0, "1:?0[x0;]!3[x0;]?1[m00;]!2[r0;]x0;");
        for (int i = 0; i < 4; i++) {
            CHECK.no("BITS", h.mix(0, i));
            entry(h, 0, 0, 1, 0, 0, 0, 0);
        }
        CHECK.yes("another OP of it", h.mix(0, 4));
        entry(h, 1, 1, 1, 0, 0, 0, 0);
    }

    /** "a gate G (kinds 0 .. 8, CONTROLS too)", m, r */
    private static void mixedKinds() {
        RootHouse h = house(3, 0, "3:x0;y0;z0;h0;s0;t0;-s0;-t0;w01;m03;r0;1>2>h0;2>w01;");
        for (int i = 0; i < 13; i++) {
            CHECK.yes("OP " + i, h.mix(0, i));
        }
    }

    /** r: "D(i, j) for i, j with 0 at this WIRE gets D(i', j') too": all of it */
    private static void resetRoots() {
        for (int e = 0; e < 8; e++) {
            for (int start = 0; start < 2; start++) {
                RootHouse h = house(2, start, "2:h1;t1;r0;");
                h.mix(0, 0);
                for (int i = 0; i < e; i++) {
                    h.mix(0, 1);
                }
                h.mix(0, 2);
                long[] due = new long[5];
                due[e % 4] = e < 4 ? 1 : -1;
                due[4] = 2;
                entry(h, 2, 0, due);
                entry(h, 3, 1, 0, 0, 0, 0, 0);
                entry(h, 0, 0, 1, 0, 0, 0, 2);
                CHECK.row("PURITY", h::purity, 0, 1, 0, 0);
            }
        }
        RootHouse g = house(2, 0, "2:h0;h1;t1;0>t1;r0;");
        for (int i = 0; i < 5; i++) {
            g.mix(0, i);
        }
        entry(g, 2, 0, 0, 1, 1, 0, 4);
        entry(g, 0, 2, 0, 0, -1, -1, 4);
    }

    /** Of the last STARTS of three WIRES, too */
    private static void purityOfTheLast() {
        for (int start = 0; start < 8; start++) {
            RootHouse h = house(3, start, "3:1>2>h0;0>1>h2;0>2>h1;");
            for (int i = 0; i < 3; i++) {
                h.mix(0, i);
                CHECK.row("PURITY", h::purity, 0, 1, 0, 0);
            }
        }
    }

    /** "(At most 24 OPS of kind 3 ... since it was begun.)", "or would be the 25th of kind 3" */
    private static void hsAreCounted() {
        RootHouse h = house(2, 0, "2:h0;1>h0;x0;m00;");
        for (int i = 1; i <= 24; i++) {
            CHECK.yes("number " + i, h.mix(0, i % 2));
            CHECK.yes("others count for nothing", h.mix(0, 2));
        }
        CHECK.no("the 25th", h.mix(0, 0));
        CHECK.no("the 25th", h.mix(0, 1));
        CHECK.yes("another kind", h.mix(0, 2));
        CHECK.yes("another kind", h.mix(0, 3));
        CHECK.yes("a SPOIL", h.spoil(0, 1, 1));
        CHECK.no("the 25th", h.mix(0, 0));
    }

    private static void refusedHsAreNot() {
        RootHouse h = house(1, 0, "1:h0;?0[h0;]", "2:h0;");
        for (int i = 0; i < 30; i++) {
            CHECK.no("BITS", h.mix(0, 1));
            CHECK.no("not as many WIRES", h.mix(1, 0));
            CHECK.no("no such OP", h.mix(0, 2));
        }
        for (int i = 1; i <= 24; i++) {
            CHECK.yes("number " + i, h.mix(0, 0));
        }
        CHECK.no("the 25th", h.mix(0, 0));
        entry(h, 0, 0, 1, 0, 0, 0, 0);
    }

    /** spoil: "no such WIRE" */
    private static void spoiltWires() {
        for (int n = 1; n <= 3; n++) {
            for (int wire : new int[] {Integer.MIN_VALUE, -1, 0, n - 1, n, n + 1, 32, 33, Integer.MAX_VALUE}) {
                RootHouse h = house(n, 0);
                boolean is = wire >= 0 && wire < n;
                CHECK.same("WIRE " + wire + " of " + n, h.spoil(wire, 1, 16) ? 1 : 0, is ? 1 : 0);
                entry(h, is ? 1 << wire : 0, is ? 1 << wire : 0, 1, 0, 0, 0, 0);
            }
        }
    }

    /** "by x, y, z (by 1 .. 3) or all (0)" */
    private static void spoiltBy() {
        for (int by : new int[] {Integer.MIN_VALUE, -1, 0, 1, 2, 3, 4, 5, Integer.MAX_VALUE}) {
            RootHouse h = house(1, 0);
            boolean is = by >= 0 && by <= 3;
            CHECK.same("by " + by, h.spoil(0, by, 16) ? 1 : 0, is ? 1 : 0);
            boolean flips = by == 1 || by == 2;
            entry(h, 0, 0, flips ? 0 : 1, 0, 0, 0, by == 0 ? 2 : 0);
            entry(h, 1, 1, flips || by == 0 ? 1 : 0, 0, 0, 0, by == 0 ? 2 : 0);
        }
    }

    /** "k (1 .. 16) sixteenths" */
    private static void spoiltSixteenths() {
        for (int k : new int[] {Integer.MIN_VALUE, -1, 0, 1, 2, 15, 16, 17, 18, Integer.MAX_VALUE}) {
            for (int by = 0; by <= 3; by++) {
                RootHouse h = house(1, 0);
                CHECK.same("k " + k, h.spoil(0, by, k) ? 1 : 0, k >= 1 && k <= 16 ? 1 : 0);
                if (k < 1 || k > 16) {
                    entry(h, 0, 0, 1, 0, 0, 0, 0);
                }
            }
        }
        for (int k = 1; k <= 16; k++) {
            RootHouse h = house(1, 0);
            h.spoil(0, 1, k);
            int zeros = Integer.numberOfTrailingZeros(k);
            entry(h, 1, 1, k >> zeros, 0, 0, 0, 8 - 2 * zeros);
            entry(h, 0, 0, 16 - k >> zeros, 0, 0, 0, k == 16 ? 0 : 8 - 2 * zeros);
            RootHouse g = house(1, 1);
            g.spoil(0, 0, k);
            entry(g, 0, 0, k >> zeros, 0, 0, 0, 10 - 2 * zeros);
        }
    }

    /** "or 6 SPOILS were" */
    private static void sixSpoils() {
        RootHouse h = house(3, 0);
        for (int i = 1; i <= 6; i++) {
            CHECK.yes("number " + i, h.spoil(i % 3, i % 4, 16));
        }
        for (int by = 0; by <= 3; by++) {
            CHECK.no("the 7th", h.spoil(0, by, 16));
        }
    }

    private static void refusedSpoilsAreNot() {
        RootHouse h = house(1, 0);
        for (int i = 0; i < 10; i++) {
            h.spoil(1, 0, 1);
            h.spoil(0, 4, 1);
            h.spoil(0, 0, 0);
            h.spoil(0, 0, 17);
            h.spoil(-1, 0, 1);
        }
        for (int i = 1; i <= 6; i++) {
            CHECK.yes("number " + i, h.spoil(0, 1, 16));
        }
        CHECK.no("the 7th", h.spoil(0, 1, 16));
        entry(h, 0, 0, 1, 0, 0, 0, 0);
    }

    /** "since it was begun" */
    private static void beginsAnew() {
        RootHouse h = house(1, 0, "1:h0;");
        for (int round = 0; round < 2; round++) {
            for (int i = 0; i < 24; i++) {
                CHECK.yes("h", h.mix(0, 0));
            }
            for (int i = 0; i < 6; i++) {
                CHECK.yes("a SPOIL", h.spoil(0, 3, 5));
            }
            CHECK.no("the 25th", h.mix(0, 0));
            CHECK.no("the 7th", h.spoil(0, 3, 5));
            CHECK.no("no such START", h.density(1, 2));
            CHECK.no("the 25th", h.mix(0, 0));
            CHECK.no("the 7th", h.spoil(0, 3, 5));
            CHECK.yes("anew", h.density(1, 1));
            entry(h, 1, 1, 1, 0, 0, 0, 0);
        }
        h.clear();
        entry(h, 1, 1, 1, 0, 0, 0, 0);
    }

    /** entry: "no such i, j, or part" */
    private static void entries() {
        for (int n : new int[] {1, 2, 3}) {
            RootHouse h = house(n, 0);
            CHECK.only("i", i -> h.entry(i, 0, 0), 0, (1 << n) - 1);
            CHECK.only("j", j -> h.entry(0, j, 0), 0, (1 << n) - 1);
            CHECK.only("part", part -> h.entry(0, 0, part), 0, 4);
            entry(h, 0, 1, 0, 0, 0, 0, 0);
        }
    }

    /** purity: "there is no DENSITY, or no such part" */
    private static void purities() {
        RootHouse h = house(3, 5);
        CHECK.only("part", h::purity, 0, 2);
        CHECK.row("1", h::purity, 0, 1, 0, 0);
        RootHouse g = house(1, 0);
        g.spoil(0, 0, 16);
        CHECK.row("a half", g::purity, 0, 1, 0, 1);
    }

    /** "ArithmeticException (asked behind that): a D(i, j) has a k above 50" */
    private static void powersUpTo50() {
        RootHouse h = house(1, 0, "1:h0;t0;");
        for (int i = 0; i < 4; i++) {
            h.spoil(0, 0, 1);
        }
        for (int step = 0; step < 40; step++) {
            long most = 0;
            for (int i = 0; i < 4; i++) {
                most = Math.max(most, h.entry(i & 1, i >> 1, 4));
            }
            for (int part = -1; part <= 3; part++) {
                int asked = part;
                String said = Check.said(() -> h.purity(asked));
                boolean none = part < 0 || part > 2;
                CHECK.same("k " + most + ", part " + part, said, none ? "NoSuchElementException" : most > 50 ? "ArithmeticException" : said);
                CHECK.same("an answer", said.equals("ArithmeticException") ? 1 : 0, !none && most > 50 ? 1 : 0);
            }
            h.mix(0, step % 2);
        }
        CHECK.same("no such part", Check.said(() -> h.purity(3)), "NoSuchElementException");
    }

    /** Spoilt by all, 1 sixteenth, i times: D(0, 0) and D(1, 1) are (1 + (15 / 16)^i) / 2 and (1 - (15 / 16)^i) / 2. */
    private static void purityIsExact() {
        RootHouse h = house(1, 0, "1:h0;t0;");
        long left = 1;
        for (int i = 1; i <= 6; i++) {
            h.spoil(0, 0, 1);
            left *= 15;
            long whole = 1L << 4 * i;
            entry(h, 0, 0, whole + left, 0, 0, 0, 8 * i + 2);
            entry(h, 1, 1, whole - left, 0, 0, 0, 8 * i + 2);
            CHECK.row("PURITY", h::purity, 0, whole * whole + left * left, 0, 8 * i + 1);
        }
        CHECK.yes("h", h.mix(0, 0));
        entry(h, 0, 1, left, 0, 0, 0, 50);
        CHECK.row("just 50", h::purity, 0, (1L << 48) + left * left, 0, 49);
        CHECK.yes("t", h.mix(0, 1));
        CHECK.row("just 50", h::purity, 0, (1L << 48) + left * left, 0, 49);
        CHECK.yes("h", h.mix(0, 0));
        CHECK.same("k", h.entry(0, 0, 4), 51);
        CHECK.same("51", Check.said(() -> h.purity(0)), "ArithmeticException");
    }

    /** "if there is none" */
    private static void withoutADensity() {
        RootHouse h = new RootHouse();
        Check.circuit(h, "1:x0;");
        CHECK.no("mix", h.mix(0, 0));
        for (int by = 0; by <= 3; by++) {
            CHECK.no("spoil", h.spoil(0, by, 1));
        }
        for (int part = -1; part <= 5; part++) {
            int asked = part;
            CHECK.same("entry", Check.said(() -> h.entry(0, 0, asked)), "NoSuchElementException");
            CHECK.same("purity", Check.said(() -> h.purity(asked)), "NoSuchElementException");
        }
        h.density(0, 0);
        h.density(4, 0);
        CHECK.same("still none", Check.said(() -> h.entry(0, 0, 0)), "NoSuchElementException");
    }
}

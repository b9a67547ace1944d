/** Bounds of what is looked for: 'VII', 'VIII', 'XIV', 'XV' and promises 33 to 39 and 52 to 55. */
public final class BoundsSearchTest {
    private static final Check CHECK = new Check("bounds of searches");
    private static final int IDENTITY = 0xFAC688;

    public static void main(String[] args) {
        formsOfOneWire();
        formsOfGates();
        letters();
        longForms();
        permutations();
        leastIsRefused();
        leastOfNothing();
        places();
        linksAreCounted();
        routedWires();
        routedOps();
        noWay();
        noLinkNeeded();
        tooManyOps();
        twentyCircuits();
        swapsAreTold();
        orderOfLinks();
        games();
        kinOfPoints();
        kinOfGraphs();
        kinAlone();
        tensors();
        costs();
        greatestCosts();
        totals();
        CHECK.end();
    }

    private static RootHouse house(String... texts) {
        RootHouse h = new RootHouse();
        for (String text : texts) {
            Check.circuit(h, text);
        }
        return h;
    }

    private static String many(int count, String op) {
        return ("*9[" + op + "]").repeat(count / 9) + op.repeat(count % 9);
    }

    /** form: "NONE if there is none such, or it has more than one WIRE" */
    private static void formsOfOneWire() {
        for (int n = 1; n <= 8; n++) {
            RootHouse h = house(n + ":h0;");
            CHECK.same(n + " WIRES", h.form(0), n == 1 ? 1 : -1);
            CHECK.same("letter", h.letter(0), n == 1 ? 'h' : -1);
        }
        RootHouse h = house("1:", "1:h0;");
        CHECK.only("circuit", h::form, 0, 1);
        CHECK.same("nothing there", new RootHouse().form(0), -1);
    }

    /** "m, r or BITS" */
    private static void formsOfGates() {
        for (String text : new String[] {"1:m00;", "1:r0;", "1:?0[h0;]", "1:!3[h0;]", "1:h0;t0;m00;", "1:r0;h0;"}) {
            RootHouse h = house("1:t0;h0;", text);
            CHECK.same("none was told", h.letter(-1), -1);
            CHECK.same(text, h.form(1), -1);
            CHECK.row("none was told", h::letter, -2, -1, -1, -1, -1);
            CHECK.same("one is told", h.form(0), 2);
            CHECK.same(text, h.form(1), -1);
            CHECK.row("the latest that was told", h::letter, -2, -1, 1, 'h', 't', -1);
        }
    }

    /** letter: "how many t it has for k NONE; NONE if there is none such, or none was told yet" */
    private static void letters() {
        RootHouse h = house("1:", "1:t0;h0;s0;", "1:h0;");
        CHECK.row("none was told yet", h::letter, -2, -1, -1, -1, -1);
        CHECK.same("nothing", h.form(0), 0);
        CHECK.row("without letters", h::letter, -2, -1, 0, -1, -1);
        CHECK.same("three", h.form(1), 3);
        CHECK.row("letters", h::letter, -2, -1, 1, 's', 'h', 't', -1, -1);
        CHECK.same("one", h.form(2), 1);
        CHECK.row("letters", h::letter, -2, -1, 0, 'h', -1, -1);
        for (int k : new int[] {Integer.MIN_VALUE, -100, 1000, Integer.MAX_VALUE}) {
            CHECK.same("no such letter", h.letter(k), -1);
        }
    }

    /** As many letters as there can be: with 60 of kind 3 there are 61 t's, and 60 times an s and an h. */
    private static void longForms() {
        RootHouse h = house("1:t0;" + many(60, "h0;s0;t0;"));
        int count = h.form(0);
        CHECK.same("t's", h.letter(-1), 61);
        StringBuilder form = new StringBuilder();
        for (int k = 0; k < count; k++) {
            form.append((char) h.letter(k));
        }
        CHECK.yes("it is a FORM", form.toString().matches("t?(ht|sht)*[hs]{0,6}"));
        CHECK.same("none behind it", h.letter(count), -1);
        RootHouse g = house("1:" + many(300, "t0;"));
        CHECK.same("300 are z", g.form(0), 2);
        CHECK.row("ss", g::letter, -1, 0, 's', 's', -1);
        RootHouse f = house("1:" + many(299, "t0;"));
        CHECK.same("299", f.form(0), 2);
        CHECK.row("ts", f::letter, -1, 1, 't', 's', -1);
    }

    /** least: "NONE if it is no permutation (bits 24 and above must be 0)" */
    private static void permutations() {
        RootHouse h = new RootHouse();
        for (int bit = 24; bit < 32; bit++) {
            CHECK.same("bit " + bit, h.least(IDENTITY | 1 << bit), -1);
        }
        for (int start = 0; start < 8; start++) {
            for (int to = 0; to < 8; to++) {
                int other = IDENTITY & ~(7 << 3 * start) | to << 3 * start;
                if (to != start) {
                    CHECK.same("two go to " + to, h.least(other), -1);
                }
            }
        }
        for (int other : new int[] {0, -1, 0xFFFFFF, Integer.MIN_VALUE, Integer.MAX_VALUE}) {
            CHECK.same("no permutation", h.least(other), -1);
        }
        CHECK.same("no circuit", h.total(0), 0);
        CHECK.same("nothing to do", h.least(IDENTITY), 0);
        CHECK.same("the last bits", h.least(076543210 ^ 1 << 21 ^ 1 << 18), 1);
        CHECK.same("6 and 7", Check.written(h, 1), "3:1>2>x0;");
    }

    /** "or there are 20" */
    private static void leastIsRefused() {
        RootHouse h = new RootHouse();
        for (int i = 0; i < 20; i++) {
            CHECK.same("number", h.least(IDENTITY), i);
        }
        CHECK.same("there are 20", h.least(IDENTITY), -1);
        CHECK.same("there are 20", h.total(0), 20);
        h.clear();
        CHECK.same("there are none", h.least(IDENTITY), 0);
    }

    /** "of the fewest OPS": none */
    private static void leastOfNothing() {
        RootHouse h = new RootHouse();
        h.least(IDENTITY);
        CHECK.row("no OPS", what -> h.look(0, what), 0, 3, 0, 0, 2);
    }

    /** link: "false if there are no such places, or a is b" */
    private static void places() {
        RootHouse h = new RootHouse();
        for (int is = 0; is < 2; is++) {
            boolean there = is == 1;
            CHECK.only("place", a -> Check.yesOrNone(h.link(a, 0, there)), 1, 5);
            CHECK.only("place", b -> Check.yesOrNone(h.link(0, b, there)), 1, 5);
            CHECK.only("place", a -> Check.yesOrNone(h.link(a, 5, there)), 0, 4);
            CHECK.only("place", b -> Check.yesOrNone(h.link(5, b, there)), 0, 4);
            for (int a = -2; a < 8; a++) {
                CHECK.no("a is b", h.link(a, a, there));
            }
        }
    }

    /** total 4: "LINKS that are there" */
    private static void linksAreCounted() {
        RootHouse h = new RootHouse();
        int count = 0;
        for (int a = 0; a < 6; a++) {
            for (int b = a + 1; b < 6; b++) {
                CHECK.yes("none is taken away", h.link(a, b, false));
                CHECK.same("LINKS", h.total(4), count);
                CHECK.yes("one more", h.link(b, a, true));
                count++;
                CHECK.same("LINKS", h.total(4), count);
                CHECK.yes("it is there", h.link(a, b, true));
                CHECK.no("refused", h.link(a, 6, true));
                CHECK.no("refused", h.link(a, a, false));
                CHECK.same("LINKS", h.total(4), count);
            }
        }
        CHECK.same("all", count, 15);
        for (int a = 0; a < 6; a++) {
            for (int b = a + 1; b < 6; b++) {
                h.link(a, b, false);
                count--;
                CHECK.same("LINKS", h.total(4), count);
            }
        }
    }

    /** All places in a row. */
    private static RootHouse chip(String... texts) {
        RootHouse h = house(texts);
        for (int i = 0; i < 5; i++) {
            h.link(i, i + 1, true);
        }
        return h;
    }

    /** "N at most 6" */
    private static void routedWires() {
        for (int n = 1; n <= 8; n++) {
            RootHouse h = chip(n + ":x" + (n - 1) + ";");
            CHECK.same(n + " WIRES", h.route(0), n <= 6 ? 1 : -1);
            CHECK.same("six", h.look(1, 0), n <= 6 ? 6 : -1);
            CHECK.same("at its place", h.op(1, 0, 1), n <= 6 ? n - 1 : -1);
        }
        for (int c : new int[] {Integer.MIN_VALUE, -1, 0, 1, 2, 3, 20, Integer.MAX_VALUE}) {
            RootHouse h = chip("1:", "6:");
            CHECK.same("circuit " + c, h.route(c), c == 0 || c == 1 ? 2 : -1);
        }
        CHECK.same("nothing there", new RootHouse().route(0), -1);
    }

    /** "OPS without r, m, BITS, each of one WIRE, or of two in all" */
    private static void routedOps() {
        for (String op : new String[] {"x0;", "y0;", "z0;", "h0;", "s0;", "t0;", "-s0;", "-t0;", "w01;", "1>x0;", "1>y0;", "1>z0;", "1>h0;",
            "1>s0;", "1>t0;", "1>-s0;", "1>-t0;"}) {
            RootHouse h = chip("3:" + op);
            CHECK.same(op, h.route(0), 1);
            CHECK.same(op, Check.written(h, 1), "6:" + op);
        }
        for (String op : new String[] {"1>2>x0;", "2>w01;", "1>2>t0;", "r0;", "m00;", "?0[x0;]", "!3[x0;]"}) {
            RootHouse h = chip("3:" + op, "3:x0;" + op, "3:" + op + "x0;");
            CHECK.row(op, h::route, 0, -1, -1, -1);
            CHECK.same("circuits", h.total(0), 3);
        }
    }

    /** "or no WAY" */
    private static void noWay() {
        RootHouse h = house("2:0>x1;", "2:x0;0>x1;x1;");
        CHECK.row("no LINKS", h::route, 0, -1, -1);
        h.link(2, 3, true);
        CHECK.row("a LINK of others", h::route, 0, -1, -1);
        h.link(0, 2, true);
        CHECK.row("1 stays alone", h::route, 0, -1, -1);
        CHECK.same("SWAPS ahead of any", h.total(5), 0);
        h.link(1, 3, true);
        CHECK.same("there is one", h.route(0), 2);
        CHECK.same("two", h.total(5), 2);
        RootHouse g = house("4:0>x1;2>x3;0>x3;");
        g.link(0, 1, true);
        g.link(2, 3, true);
        CHECK.same("all but the last", g.route(0), -1);
        g.link(0, 1, false);
        g.link(0, 3, true);
        CHECK.same("1 is alone", g.route(0), -1);
    }

    /** OPS of one WIRE need none. */
    private static void noLinkNeeded() {
        RootHouse h = house("6:h0;t5;x3;", "1:");
        CHECK.same("no LINKS", h.route(0), 2);
        CHECK.same("as they are", Check.written(h, 2), "6:h0;t5;x3;");
        CHECK.same("no OPS", h.route(1), 3);
        CHECK.same("no OPS", Check.written(h, 3), "6:");
        CHECK.same("no SWAPS", h.total(5), 0);
    }

    /** "too many OPS" */
    private static void tooManyOps() {
        for (int far = 1; far <= 5; far++) {
            for (int count = 290; count <= 299; count++) {
                RootHouse h = chip("6:" + many(count, "x0;") + "0>x" + far + ";");
                int all = count + 1 + far - 1;
                CHECK.same(far + " away", h.route(0), all <= 300 ? 1 : -1);
                CHECK.same("OPS", h.look(1, 1), all <= 300 ? all : -1);
                CHECK.same("SWAPS", h.total(5), all <= 300 ? far - 1 : 0);
            }
        }
        RootHouse h = chip("6:" + many(300, "x0;"), "6:" + many(60, "h0;"), "6:" + many(60, "h0;") + many(240, "0>x1;"));
        CHECK.row("just as many", h::route, 0, 3, 4, 5);
        CHECK.same("of kind 3", h.look(4, 2), 60);
        CHECK.same("OPS", h.look(5, 1), 300);
    }

    /** "20 circuits" */
    private static void twentyCircuits() {
        RootHouse h = chip("6:0>x2;");
        for (int i = 1; i < 20; i++) {
            CHECK.same("number", h.route(0), i);
        }
        CHECK.same("there are 20", h.route(0), -1);
        CHECK.same("circuits", h.total(0), 20);
    }

    /** total 5: "SWAPS of the latest route() that answered a number (0 ahead of any)" */
    private static void swapsAreTold() {
        RootHouse h = chip("6:0>x5;", "6:0>x2;", "6:m00;", "7:", "6:0>x1;");
        CHECK.same("ahead of any", h.total(5), 0);
        CHECK.same("refused", h.route(2), -1);
        CHECK.same("ahead of any", h.total(5), 0);
        CHECK.same("far", h.route(0), 5);
        CHECK.same("four", h.total(5), 4);
        for (int c : new int[] {2, 3, -1, 6, 20}) {
            CHECK.same("refused", h.route(c), -1);
            CHECK.same("four", h.total(5), 4);
        }
        CHECK.same("near", h.route(1), 6);
        CHECK.same("one", h.total(5), 1);
        CHECK.same("at once", h.route(4), 7);
        CHECK.same("none", h.total(5), 0);
        h.route(0);
        h.clear();
        CHECK.same("it stays", h.total(5), 4);
    }

    /** "numbered 0 .. 14 as 01 02 03 04 05 12 13 14 15 23 24 25 34 35 45"; "of several the first one by their LINKS' numbers" */
    private static void orderOfLinks() {
        for (int a = 0; a < 6; a++) {
            for (int b = 0; b < 6; b++) {
                RootHouse h = house(a == b ? "6:" : "6:" + a + ">x" + b + ";");
                for (int i = 0; i < 6; i++) {
                    for (int j = i + 1; j < 6; j++) {
                        if (i + j != a + b || i != Math.min(a, b)) {
                            h.link(i, j, true);
                        }
                    }
                }
                int least = Math.min(a, b) == 0 ? Math.max(a, b) == 1 ? 2 : 1 : 0;
                String swap = least == 0 ? "w0" + Math.min(a, b) : "w0" + least;
                CHECK.same(a + " and " + b, h.route(0), 1);
                CHECK.same(a + " and " + b, h.total(5), a == b ? 0 : 1);
                CHECK.same(a + " and " + b, a == b ? "" : Check.written(h, 1).substring(2, 5), a == b ? "" : swap);
            }
        }
    }

    /** played: "NONE without any"; "those with the least number" */
    private static void games() {
        RootHouse h = new RootHouse();
        CHECK.same("without any", h.played(), -1);
        CHECK.same("nothing wins", h.game(0), 0);
        CHECK.same("the least", h.played(), 0);
        CHECK.same("all wins", h.game(-1), 16);
        CHECK.same("the least", h.played(), 0);
        for (int bit = 0; bit < 64; bit++) {
            int due = 16 * ((bit >> 1 & 1) << (bit >> 4)) + ((bit & 1) << (bit >> 2 & 3));
            CHECK.same("one wins", h.game(1L << bit), 1);
            CHECK.same("bit " + bit, h.played(), due);
        }
        for (int answers = 0; answers < 256; answers++) {
            long rules = 0;
            for (int s = 0; s < 4; s++) {
                for (int t = 0; t < 4; t++) {
                    rules |= 1L << 16 * s + 4 * t + 2 * (answers >> 4 + s & 1) + (answers >> t & 1);
                }
            }
            RootHouse g = new RootHouse();
            CHECK.same("just one way", g.game(rules), 16);
            CHECK.same("just one way", g.played(), answers);
        }
    }

    /** kin: "on n points (2 .. 6)", "NONE if there is no such n, GRAPH, or for another what" */
    private static void kinOfPoints() {
        RootHouse h = new RootHouse();
        CHECK.only("n", n -> h.kin(n, 0, 0), 2, 6);
        CHECK.only("n", n -> h.kin(n, 1, 2), 2, 6);
        for (int n = 2; n <= 6; n++) {
            int points = n;
            CHECK.only("what", what -> h.kin(points, 1, what), 0, 2);
        }
    }

    /** A GRAPH has n * (n - 1) / 2 pairs. */
    private static void kinOfGraphs() {
        RootHouse h = new RootHouse();
        for (int n = 2; n <= 6; n++) {
            int points = n;
            int pairs = n * (n - 1) / 2;
            for (int what = 0; what < 3; what++) {
                int asked = what;
                CHECK.only("GRAPH", graph -> h.kin(points, graph, asked), 0, (1 << pairs) - 1);
            }
            CHECK.same("all pairs: it and its stars", h.kin(n, (1 << pairs) - 1, 0), n == 2 ? 1 : n + 1);
            CHECK.same("a star's pairs", h.kin(n, (1 << pairs) - 1, 2), n - 1);
        }
    }

    /** "it too" */
    private static void kinAlone() {
        RootHouse h = new RootHouse();
        for (int n : new int[] {2, 3, 4, 5, 6}) {
            CHECK.row("no pairs", what -> h.kin(n, 0, what), 0, 1, 0, 0);
            int last = 1 << n * (n - 1) / 2 - 1;
            CHECK.row("one pair", what -> h.kin(n, last, what), 0, 1, last, 1);
        }
    }

    /** tensor: "TENSOR i (0 .. 8)"; "legs is not 0 .. 65535" */
    private static void tensors() {
        RootHouse h = new RootHouse();
        CHECK.only("TENSOR", i -> Check.yesOrNone(h.tensor(i, 1)), 0, 8);
        CHECK.only("LEGS", legs -> Check.yesOrNone(h.tensor(8, legs)), 0, 65535);
        RootHouse g = new RootHouse();
        g.tensor(0, 7);
        g.tensor(1, 56);
        for (int[] call : new int[][] {{0, 65536}, {1, -1}, {0, Integer.MIN_VALUE}, {9, 1}, {-1, 1}, {1, Integer.MAX_VALUE}}) {
            CHECK.no("refused", g.tensor(call[0], call[1]));
            CHECK.same("as it was", g.cost(2), 64);
        }
        CHECK.yes("from now on", g.tensor(1, 0));
        CHECK.same("no LEGS", g.cost(2), 8);
    }

    /** cost: "NONE if there is no such n"; "(at first none has any)"; "(0 for one TENSOR)" */
    private static void costs() {
        RootHouse h = new RootHouse();
        CHECK.only("n", h::cost, 1, 9);
        for (int n = 1; n <= 9; n++) {
            CHECK.same("without LEGS", h.cost(n), n - 1);
        }
        h.tensor(0, 65535);
        CHECK.same("one TENSOR", h.cost(1), 0);
        h.tensor(8, 1);
        CHECK.same("TENSOR 8 is not one of 8", h.cost(8), 65536 + 6);
    }

    /** "it costs 2^(how many LEGS they have together, each counted once)" */
    private static void greatestCosts() {
        RootHouse h = new RootHouse();
        for (int i = 0; i < 9; i++) {
            h.tensor(i, 65535);
        }
        CHECK.same("two", h.cost(2), 65536);
        CHECK.same("three", h.cost(3), 2 * 65536);
        CHECK.same("four", h.cost(4), 2 * 65536 + 1);
        CHECK.same("nine", h.cost(9), 5 * 65536 + 3);
        RootHouse g = new RootHouse();
        for (int i = 0; i < 9; i++) {
            g.tensor(i, 1 << i);
        }
        g.tensor(0, 0xFE01);
        CHECK.same("the great one last", g.cost(9), 4 * 4 + 2 * 16 + 256 + 65536);
    }

    /** total: "NONE for another what" */
    private static void totals() {
        RootHouse h = new RootHouse();
        CHECK.only("what", h::total, 0, 7);
        CHECK.row("a new object", h::total, -1, -1, 0, 0, 1, 0, 0, 0, 0, 0, -1);
    }
}

/** Bounds of DIAGRAMS: 'V' and promises 25 to 29. */
public final class BoundsDiagramTest {
    private static final Check CHECK = new Check("bounds of diagrams");
    private static final String[] PHASES = {"z0;z0;", "t0;", "s0;", "s0;t0;", "z0;", "z0;t0;", "-s0;", "-t0;"};

    public static void main(String[] args) {
        atMostFourWires();
        atMost60Spiders();
        opsThatCanBe();
        noSuchCircuit();
        theOldOneStays();
        drawnAnew();
        asksOfSpiders();
        goneSpiders();
        rulesOneToFour();
        fusesLesserAndGreater();
        fusesNoEnds();
        skipsPhase0();
        skipsTwoEdges();
        skipsBesideOneEnd();
        complementsPhases2And6();
        complementsNoEnds();
        complementsTurnedAlone();
        complementsAmongNeighbours();
        pivotsPhases0And4();
        pivotsNeighbours();
        pivotsNoEnds();
        secondCountsFor1And4();
        phasesModulo8();
        bothKindsComeTogether();
        reducesByTheFirstRule();
        reducesNothing();
        meaningsOfStarts();
        meaningsOneByOne();
        meaningsOf12();
        meaningsOverOne();
        withoutADiagram();
        CHECK.end();
    }

    private static RootHouse drawn(String text) {
        RootHouse h = new RootHouse();
        h.diagram(Check.circuit(h, text));
        return h;
    }

    private static String many(int count, String op) {
        return ("*9[" + op + "]").repeat(count / 9) + op.repeat(count % 9);
    }

    /** "of a circuit of N WIRES (at most 4)", "NONE if ... it has more than 4 WIRES" */
    private static void atMostFourWires() {
        for (int n = 1; n <= 8; n++) {
            RootHouse h = new RootHouse();
            CHECK.same(n + " WIRES", h.diagram(Check.circuit(h, n + ":")), n <= 4 ? 2 * n : -1);
            CHECK.same("SPIDERS", h.total(3), n <= 4 ? 2 * n : 0);
            for (int i = 0; i < n && n <= 4; i++) {
                CHECK.same("its EDGE", h.spider(i, 100 + n + i), 1);
                CHECK.same("one EDGE", h.spider(n + i, 1), 1);
            }
        }
    }

    /** "at most 60 in all", "or it would have more than 60" */
    private static void atMost60Spiders() {
        String[] ops = {"x0;", "z0;", "s0;", "t0;", "-s0;", "-t0;"};
        for (String op : ops) {
            for (int n = 1; n <= 4; n++) {
                for (int count : new int[] {59, 60, 61, 62}) {
                    RootHouse h = drawn(n + ":" + many(count - 2 * n, op));
                    CHECK.same(op + " of " + n, h.total(3), count <= 60 ? count : 0);
                }
            }
        }
        for (String op : new String[] {"y0;", "1>x0;", "0>z1;"}) {
            for (int count : new int[] {58, 60, 62}) {
                RootHouse h = drawn("2:" + many((count - 4) / 2, op));
                CHECK.same(op, h.total(3), count <= 60 ? count : 0);
                RootHouse g = drawn("2:t0;" + many((count - 4) / 2, op));
                CHECK.same(op + " and one", g.total(3), count < 60 ? count + 1 : 0);
            }
        }
        RootHouse h = drawn("2:" + many(60, "h0;") + many(200, "w01;") + "t0;");
        CHECK.same("h and w put none", h.total(3), 5);
        for (String ahead : new String[] {"h0;", "h0;h0;h0;", "w01;", "w01;h1;"}) {
            RootHouse f = drawn("2:" + ahead + many(56, "t0;"));
            CHECK.same(ahead + "puts none", f.total(3), 60);
            RootHouse e = drawn("2:" + ahead + many(57, "t0;"));
            CHECK.same(ahead + "takes none away", e.total(3), 0);
        }
        RootHouse g = drawn("1:" + many(58, "t0;"));
        CHECK.row("the last ones", i -> g.spider(i, 0), 57, 1, 1, 1, -1, -1);
        CHECK.same("the OUTPUT's EDGE", g.spider(1, 159), 1);
        CHECK.same("all come together", g.reduce(), 57);
        CHECK.same("58 eighths", g.spider(2, 0), 2);
    }

    /** "a circuit whose OPS are of kinds 0 .. 8 without CONTROLS, or 0 or 2 with one", "OPS that can't be, BITS" */
    private static void opsThatCanBe() {
        for (String op : new String[] {"x0;", "y0;", "z0;", "h0;", "s0;", "t0;", "-s0;", "-t0;", "w01;", "1>x0;", "1>z0;", "3>x2;"}) {
            RootHouse h = new RootHouse();
            CHECK.yes(op, h.diagram(Check.circuit(h, "4:" + op)) >= 8);
        }
        for (String op : new String[] {"1>y0;", "1>h0;", "1>s0;", "1>t0;", "1>-s0;", "1>-t0;", "2>w01;", "1>2>x0;", "1>2>z0;", "m00;", "r0;",
            "?0[x0;]", "!3[z0;]", "?1[h0;]"}) {
            RootHouse h = new RootHouse();
            CHECK.same(op, h.diagram(Check.circuit(h, "4:" + op)), -1);
            CHECK.same(op, h.diagram(Check.circuit(h, "4:x0;" + op + "x0;")), -1);
            CHECK.same("none", h.total(3), 0);
        }
    }

    /** "NONE if there is none such" */
    private static void noSuchCircuit() {
        RootHouse h = new RootHouse();
        CHECK.same("nothing there", h.diagram(0), -1);
        Check.circuit(h, "1:");
        Check.circuit(h, "1:t0;");
        CHECK.only("circuit", h::diagram, 0, 1);
    }

    /** "(in place of the one that is there)"; a call that answers NONE changes nothing */
    private static void theOldOneStays() {
        RootHouse h = drawn("1:t0;s0;");
        Check.circuit(h, "5:");
        Check.circuit(h, "1:m00;");
        Check.circuit(h, "1:" + many(59, "t0;"));
        Check.circuit(h, "1:x0;m00;");
        for (int c : new int[] {1, 2, 3, 4, 5, -1}) {
            CHECK.same("refused", h.diagram(c), -1);
            CHECK.row("as it was", i -> h.spider(i, 0), 0, 0, 0, 1, 2, -1);
            CHECK.row("as it was", part -> h.meaning(1, 1, part), 0, 0, 0, 0, 1, 0);
        }
        Check.circuit(h, "2:");
        CHECK.same("in its place", h.diagram(5), 4);
        CHECK.row("in its place", i -> h.spider(i, 1), 0, 1, 1, 1, 1, -1);
        CHECK.row("in its place", part -> h.meaning(3, 3, part), 0, 1, 0, 0, 0, 0);
    }

    /** Nothing of the old one is left in the new one. */
    private static void drawnAnew() {
        String[] texts = {"2:t0;h0;s0;h1;t1;0>z1;h1;", "1:t0;s0;", "1:h0;", "1:t0;", "4:h0;h1;h2;h3;", "4:x0;x1;x2;x3;y0;y1;", "1:"};
        for (int first = 0; first < texts.length; first++) {
            for (int second = 0; second < texts.length; second++) {
                RootHouse g = new RootHouse();
                Check.circuit(g, texts[first]);
                Check.circuit(g, texts[second]);
                g.diagram(0);
                g.reduce();
                g.diagram(1);
                RootHouse fresh = drawn(texts[second]);
                String what = texts[second] + " behind " + texts[first];
                CHECK.same(what, g.total(3), fresh.total(3));
                for (int i = 0; i < 18; i++) {
                    CHECK.same(what + " PHASE", g.spider(i, 0), fresh.spider(i, 0));
                    CHECK.same(what + " EDGES", g.spider(i, 1), fresh.spider(i, 1));
                    for (int j = i + 1; j < 18; j += 1 + j % 2) {
                        CHECK.same(what + " EDGE", g.spider(i, 100 + j), fresh.spider(i, 100 + j));
                    }
                }
            }
        }
    }

    /** spider: "NONE if there is none such ..., or for another what (j 0 .. 59; 0 for itself and those that are not there)" */
    private static void asksOfSpiders() {
        RootHouse h = drawn("1:t0;h0;s0;");
        CHECK.row("PHASE, EDGES", what -> h.spider(2, what), -2, -1, -1, 1, 2, -1, -1);
        CHECK.row("EDGES", what -> h.spider(2, what), 98, -1, -1, 1, 0, 0, 2, 0, 0);
        CHECK.row("the last j", what -> h.spider(2, what), 157, 0, 0, 0, -1, -1);
        for (int what : new int[] {Integer.MIN_VALUE, 50, 164, 200, Integer.MAX_VALUE}) {
            CHECK.same("another what", h.spider(2, what), -1);
        }
        for (int what : new int[] {0, 1, 100, 101, 159}) {
            for (int i : new int[] {Integer.MIN_VALUE, -1, 4, 59, 60, 63, 64, 66, Integer.MAX_VALUE}) {
                CHECK.same("no SPIDER " + i, h.spider(i, what), -1);
            }
        }
        for (int i = 0; i < 4; i++) {
            CHECK.same("itself", h.spider(i, 100 + i), 0);
        }
        RootHouse g = drawn("1:t0;z0;z0;z0;t0;");
        CHECK.row("INPUT and OUTPUT have PHASE 0", i -> g.spider(i, 0), 0, 0, 0);
    }

    /** "(or it is gone)", "numbers of those that are gone stay theirs" */
    private static void goneSpiders() {
        RootHouse h = drawn("1:t0;s0;z0;");
        CHECK.yes("2 and 3", h.rewrite(1, 2, 3));
        CHECK.row("3 is gone", i -> h.spider(i, 0), 2, 3, -1, 4, -1);
        CHECK.row("3 is gone", i -> h.spider(i, 1), 2, 2, -1, 2, -1);
        CHECK.same("3 is gone", h.spider(3, 100), -1);
        CHECK.same("no EDGE to it", h.spider(2, 103), 0);
        CHECK.same("SPIDERS that are there", h.total(3), 4);
        for (int rule = 1; rule <= 4; rule++) {
            CHECK.no("3 is gone", h.rewrite(rule, 3, 4));
            CHECK.no("3 is gone", h.rewrite(rule, 2, 3));
        }
        CHECK.yes("2 and 4", h.rewrite(1, 2, 4));
        CHECK.row("one is left", i -> h.spider(i, 0), 1, 0, 7, -1, -1);
    }

    /** rewrite: "A RULE (1 .. 4)"; "false if it can't be" */
    private static void rulesOneToFour() {
        for (int rule : new int[] {Integer.MIN_VALUE, -1, 0, 5, 6, 7, Integer.MAX_VALUE}) {
            RootHouse h = drawn("1:t0;t0;h0;s0;h0;z0;z0;");
            for (int a = -1; a < 8; a++) {
                CHECK.no("no such RULE", h.rewrite(rule, a, a + 1));
            }
            CHECK.same("as it was", h.total(3), 7);
        }
        for (int rule = 1; rule <= 4; rule++) {
            RootHouse h = drawn("1:t0;h0;s0;h0;z0;h0;z0;h0;t0;t0;");
            int[] others = {Integer.MIN_VALUE, -64, -1, 8, 59, 60, 64, 66, 67, 68, Integer.MAX_VALUE};
            for (int other : others) {
                CHECK.no("no such a", h.rewrite(rule, other, 4));
                CHECK.no("no such a, b", h.rewrite(rule, other, other + 1));
                if (rule == 1 || rule == 4) {
                    CHECK.no("no such b", h.rewrite(rule, 4, other));
                }
            }
            CHECK.same("as it was", h.total(3), 8);
        }
    }

    /** RULE 1: "a, b, a below b, with a PLAIN EDGE" */
    private static void fusesLesserAndGreater() {
        RootHouse h = drawn("1:t0;s0;h0;z0;");
        CHECK.no("a above b", h.rewrite(1, 3, 2));
        CHECK.no("a is b", h.rewrite(1, 2, 2));
        CHECK.no("TURNED", h.rewrite(1, 3, 4));
        CHECK.no("no EDGE", h.rewrite(1, 2, 4));
        CHECK.same("as it was", h.total(3), 5);
        CHECK.yes("PLAIN", h.rewrite(1, 2, 3));
        CHECK.row("together", i -> h.spider(i, 0), 2, 3, -1, 4);
        CHECK.same("its EDGES", h.spider(2, 104), 2);
        CHECK.same("its EDGES", h.spider(0, 102), 1);
    }

    /** "(a, b neither INPUT nor OUTPUT)" */
    private static void fusesNoEnds() {
        RootHouse h = drawn("1:t0;");
        CHECK.no("an INPUT", h.rewrite(1, 0, 2));
        CHECK.no("an OUTPUT", h.rewrite(1, 1, 2));
        CHECK.no("an OUTPUT", h.rewrite(1, 2, 1));
        RootHouse g = drawn("1:");
        CHECK.no("both", g.rewrite(1, 0, 1));
        for (int rule = 2; rule <= 4; rule++) {
            CHECK.no("INPUT", g.rewrite(rule, 0, 1));
            CHECK.no("OUTPUT", g.rewrite(rule, 1, 0));
        }
        RootHouse f = drawn("4:t0;");
        for (int a = 0; a < 8; a++) {
            for (int rule = 1; rule <= 4; rule++) {
                CHECK.no("INPUTS, OUTPUTS", f.rewrite(rule, a, 8));
            }
        }
        CHECK.same("as it was", f.total(3), 9);
    }

    /** A SPIDER of any PHASE between two of PHASE 1, with TURNED EDGES; its number is 3. */
    private static RootHouse between(int phase) {
        RootHouse h = drawn("1:t0;h0;" + PHASES[phase] + "h0;t0;");
        if (PHASES[phase].length() > 4) {
            CHECK.yes("one of two", h.rewrite(1, 3, 4));
        }
        CHECK.same("its PHASE", h.spider(3, 0), phase);
        return h;
    }

    /** RULE 2: "a of PHASE 0" */
    private static void skipsPhase0() {
        for (int phase = 0; phase < 8; phase++) {
            RootHouse h = between(phase);
            int last = PHASES[phase].length() > 4 ? 5 : 4;
            CHECK.same("PHASE " + phase, h.rewrite(2, 3, 0) ? 1 : 0, phase == 0 ? 1 : 0);
            CHECK.same("it is gone", h.spider(3, 0), phase == 0 ? -1 : phase);
            CHECK.same("PLAIN if both were of one kind", h.spider(2, 100 + last), phase == 0 ? 1 : 0);
        }
        RootHouse h = drawn("1:t0;h0;z0;z0;t0;");
        h.rewrite(1, 3, 4);
        CHECK.yes("of two kinds", h.rewrite(2, 3, 0));
        CHECK.same("TURNED", h.spider(2, 105), 2);
        RootHouse g = drawn("1:t0;z0;z0;t0;");
        g.rewrite(1, 3, 4);
        CHECK.yes("of one kind", g.rewrite(2, 3, 0));
        CHECK.same("PLAIN", g.spider(2, 105), 1);
    }

    /** "with just two EDGES" */
    private static void skipsTwoEdges() {
        RootHouse h = drawn("2:t0;t1;0>z1;t0;t1;");
        CHECK.same("three", h.spider(6, 1), 3);
        CHECK.no("three", h.rewrite(2, 6, 0));
        CHECK.no("three", h.rewrite(2, 7, 0));
        RootHouse g = drawn("2:t0;t1;0>z1;0>z1;t0;t1;");
        g.rewrite(1, 6, 8);
        CHECK.yes("two EDGES go", g.rewrite(1, 7, 9));
        CHECK.same("two", g.spider(6, 1), 2);
        CHECK.yes("two", g.rewrite(2, 6, 0));
        CHECK.yes("two", g.rewrite(2, 7, 0));
        CHECK.same("PLAIN", g.spider(4, 110), 1);
    }

    /** "of which at most one is INPUT or OUTPUT" */
    private static void skipsBesideOneEnd() {
        String nothing = "z0;z0;";
        RootHouse two = drawn("1:" + nothing);
        two.rewrite(1, 2, 3);
        CHECK.no("INPUT and OUTPUT", two.rewrite(2, 2, 0));
        CHECK.same("nothing to do", two.reduce(), 0);
        RootHouse in = drawn("1:" + nothing + "t0;");
        in.rewrite(1, 2, 3);
        CHECK.yes("an INPUT", in.rewrite(2, 2, 0));
        CHECK.same("its EDGE", in.spider(0, 104), 1);
        RootHouse out = drawn("1:t0;" + nothing + "h0;");
        out.rewrite(1, 3, 4);
        CHECK.yes("an OUTPUT", out.rewrite(2, 3, 0));
        CHECK.same("its EDGE", out.spider(1, 102), 2);
        RootHouse none = drawn("1:t0;" + nothing + "t0;");
        none.rewrite(1, 3, 4);
        CHECK.yes("none", none.rewrite(2, 3, 0));
    }

    /** RULE 3: "a of PHASE 2 or 6"; "their PHASES grow by 8 less a's" */
    private static void complementsPhases2And6() {
        for (int phase = 0; phase < 8; phase++) {
            RootHouse h = between(phase);
            int last = PHASES[phase].length() > 4 ? 5 : 4;
            boolean can = phase == 2 || phase == 6;
            CHECK.same("PHASE " + phase, h.rewrite(3, 3, 77) ? 1 : 0, can ? 1 : 0);
            CHECK.same("it is gone", h.spider(3, 0), can ? -1 : phase);
            CHECK.same("its neighbour", h.spider(2, 0), can ? 9 - phase & 7 : 1);
            CHECK.same("its neighbour", h.spider(last, 0), can ? 9 - phase & 7 : 1);
            CHECK.same("an EDGE came", h.spider(2, 100 + last), can ? 2 : 0);
        }
    }

    /** "to no INPUT or OUTPUT" */
    private static void complementsNoEnds() {
        CHECK.no("an INPUT", drawn("1:h0;s0;h0;t0;").rewrite(3, 2, 0));
        CHECK.no("an OUTPUT", drawn("1:t0;h0;s0;h0;").rewrite(3, 3, 0));
        CHECK.no("both", drawn("1:h0;s0;h0;").rewrite(3, 2, 0));
        CHECK.no("one of four WIRES", drawn("4:t3;h3;s3;h3;").rewrite(3, 9, 0));
        CHECK.yes("neither", drawn("4:t3;h3;s3;h3;t3;").rewrite(3, 9, 0));
    }

    /** "all of whose EDGES are TURNED" */
    private static void complementsTurnedAlone() {
        CHECK.no("one is PLAIN", drawn("1:t0;s0;h0;t0;").rewrite(3, 3, 0));
        CHECK.no("one is PLAIN", drawn("1:t0;h0;s0;t0;").rewrite(3, 3, 0));
        CHECK.no("both are PLAIN", drawn("1:t0;s0;t0;").rewrite(3, 3, 0));
    }

    /** A triangle of 9, 10, 12, each with two neighbours more: 6 and 15, 7 and 16, 8 and 17. */
    private static RootHouse triangle(String turned) {
        String text = "3:t0;t1;t2;h0;h1;h2;0>z1;0>z2;1>z2;h0;h1;h2;t0;t1;t2;";
        RootHouse h = drawn(turned.isEmpty() ? text : text.replace("1>z2;h0;", "1>z2;" + turned + "h0;"));
        CHECK.yes("WIRE 0", h.rewrite(1, 9, 11));
        CHECK.yes("WIRE 1", h.rewrite(1, 10, 13));
        CHECK.yes("WIRE 2", h.rewrite(1, 12, 14));
        int wire = turned.isEmpty() ? 0 : turned.charAt(turned.length() - 2) - '0';
        if (!turned.isEmpty()) {
            CHECK.yes("its PHASE", h.rewrite(1, wire == 0 ? 9 : wire == 1 ? 10 : 12, 15));
        }
        return h;
    }

    /** "none of whose neighbours have PLAIN EDGES among them ... a TURNED EDGE comes between each two of its neighbours" */
    private static void complementsAmongNeighbours() {
        RootHouse h = triangle("s0;");
        CHECK.same("TURNED", h.spider(10, 112), 2);
        CHECK.yes("9 goes", h.rewrite(3, 9, 0));
        CHECK.same("TURNED and TURNED: none", h.spider(10, 112), 0);
        int[] near = {6, 10, 12, 16};
        for (int a : near) {
            CHECK.same("PHASE of " + a, h.spider(a, 0), a == 10 || a == 12 ? 6 : 7);
            for (int b : near) {
                CHECK.same("EDGE of " + a + " and " + b, h.spider(a, 100 + b), a == b || a * b == 120 ? 0 : 2);
            }
        }
        RootHouse g = drawn("2:t1;h1;0>z1;s1;0>z1;h1;t1;");
        g.rewrite(1, 6, 7);
        g.rewrite(1, 6, 9);
        CHECK.same("PLAIN", g.spider(5, 108), 1);
        CHECK.no("PLAIN among its neighbours", g.rewrite(3, 6, 0));
        CHECK.same("as it was", g.spider(6, 0), 2);
    }

    /** RULE 4: "a, b, a below b, of PHASES 0 or 4 with a TURNED EDGE"; "the PHASES of A grow by b's, of B by a's" */
    private static void pivotsPhases0And4() {
        for (int one = 0; one < 8; one++) {
            for (int two = 0; two < 8; two++) {
                RootHouse h = drawn("1:t0;h0;" + PHASES[one] + "h0;" + PHASES[two] + "h0;t0;");
                int a = 3;
                int b = PHASES[one].length() > 4 ? 5 : 4;
                int last = PHASES[two].length() > 4 ? b + 2 : b + 1;
                CHECK.same("one of two", h.rewrite(1, a, a + 1) ? 1 : 0, b - 4);
                CHECK.same("one of two", h.rewrite(1, b, b + 1) ? 1 : 0, last - b - 1);
                boolean can = one % 4 == 0 && two % 4 == 0;
                CHECK.no("a above b", h.rewrite(4, b, a));
                CHECK.no("a is b", h.rewrite(4, a, a));
                CHECK.same(one + " and " + two, h.rewrite(4, a, b) ? 1 : 0, can ? 1 : 0);
                CHECK.same("a", h.spider(a, 0), can ? -1 : one);
                CHECK.same("b", h.spider(b, 0), can ? -1 : two);
                CHECK.same("of A", h.spider(2, 0), can ? 1 + two & 7 : 1);
                CHECK.same("of B", h.spider(last, 0), can ? 1 + one & 7 : 1);
                CHECK.same("an EDGE came", h.spider(2, 100 + last), can ? 2 : 0);
            }
        }
        RootHouse h = drawn("1:t0;h0;z0;h0;t0;h0;z0;h0;t0;");
        CHECK.no("no EDGE", h.rewrite(4, 3, 5));
        RootHouse g = drawn("1:t0;h0;z0;z0;h0;t0;");
        CHECK.no("a PLAIN EDGE", g.rewrite(4, 3, 4));
    }

    /** "with A the neighbours of a alone, B of b alone, C of both: ... of C by both and 4" */
    private static void pivotsNeighbours() {
        for (String turned : new String[] {"", "z0;", "z1;", "z2;"}) {
            RootHouse h = triangle(turned);
            int more = turned.isEmpty() ? 0 : 1;
            int ofA = turned.equals("z1;") ? 4 : 0;
            int ofB = turned.equals("z0;") ? 4 : 0;
            int own = turned.equals("z2;") ? 4 : 0;
            CHECK.yes("9 and 10", h.rewrite(4, 9, 10));
            CHECK.row("A", i -> h.spider(i, 0), 6, 1 + ofA);
            CHECK.row("A", i -> h.spider(i, 0), 15 + more, 1 + ofA);
            CHECK.row("B", i -> h.spider(i, 0), 7, 1 + ofB);
            CHECK.row("B", i -> h.spider(i, 0), 16 + more, 1 + ofB);
            CHECK.row("C", i -> h.spider(i, 0), 12, own + ofA + ofB + 4 & 7);
            CHECK.row("neither", i -> h.spider(i, 0), 8, 1);
            int[] group = {1, 2, 3, 1, 2, 0};
            int[] near = {6, 7, 12, 15 + more, 16 + more, 8};
            for (int i = 0; i < 6; i++) {
                for (int j = 0; j < 6; j++) {
                    boolean differ = group[i] != group[j] && group[i] * group[j] != 0;
                    boolean old = near[i] + near[j] == 20 && i != j;
                    CHECK.same("EDGE of " + near[i] + " and " + near[j], h.spider(near[i], 100 + near[j]), differ || old ? 2 : 0);
                }
            }
        }
        RootHouse h = triangle("s0;");
        h.rewrite(3, 9, 0);
        CHECK.no("10 has PHASE 6 now", h.rewrite(4, 10, 12));
        RootHouse g = drawn("3:t0;t1;t2;h0;h1;h2;0>z1;0>z2;1>z2;0>z2;h0;h1;h2;t0;t1;t2;");
        CHECK.yes("a", g.rewrite(1, 9, 11) && g.rewrite(1, 9, 15));
        CHECK.yes("b", g.rewrite(1, 10, 13));
        CHECK.yes("one of both", g.rewrite(1, 12, 14));
        CHECK.no("it has a PLAIN EDGE to another neighbour", g.rewrite(4, 9, 10));
        CHECK.yes("that goes", g.rewrite(1, 12, 16));
        CHECK.yes("then it can be", g.rewrite(4, 9, 10));
        RootHouse f = drawn("2:t0;t1;h0;h1;0>z1;s0;t0;s0;0>z1;s1;h0;h1;t0;t1;");
        CHECK.yes("WIRE 0", f.rewrite(1, 6, 8) && f.rewrite(1, 10, 11));
        CHECK.yes("WIRE 1", f.rewrite(1, 7, 12) && f.rewrite(1, 7, 13));
        CHECK.yes("7 goes", f.rewrite(3, 7, 0));
        CHECK.row("PHASES 0", i -> f.spider(i, 0), 6, 0, -1, -1, 1, 0);
        CHECK.same("TURNED", f.spider(6, 110), 2);
        CHECK.no("both have a PLAIN EDGE to 9", f.rewrite(4, 6, 10));
        RootHouse e = drawn("2:t1;h1;z1;h1;0>z1;0>z1;h1;t1;");
        e.rewrite(1, 7, 9);
        CHECK.same("PLAIN", e.spider(6, 108), 1);
        CHECK.no("PLAIN among all their neighbours", e.rewrite(4, 5, 7));
    }

    /** "all of whose other EDGES are as in 3": TURNED, "to no INPUT or OUTPUT" */
    private static void pivotsNoEnds() {
        CHECK.no("a has an INPUT", drawn("1:h0;z0;h0;z0;h0;t0;").rewrite(4, 2, 3));
        CHECK.no("b has an OUTPUT", drawn("1:t0;h0;z0;h0;z0;h0;").rewrite(4, 3, 4));
        CHECK.no("a has a PLAIN one", drawn("1:t0;z0;h0;z0;h0;t0;").rewrite(4, 3, 4));
        CHECK.no("b has a PLAIN one", drawn("1:t0;h0;z0;h0;z0;t0;").rewrite(4, 3, 4));
        CHECK.yes("neither", drawn("1:t0;h0;z0;h0;z0;h0;t0;").rewrite(4, 3, 4));
        CHECK.no("a is an INPUT", drawn("1:h0;z0;").rewrite(4, 0, 2));
        CHECK.no("a is an OUTPUT", drawn("1:z0;h0;").rewrite(4, 1, 2));
    }

    /** "(b counts only for 1 and 4)" */
    private static void secondCountsFor1And4() {
        for (int b : new int[] {Integer.MIN_VALUE, -1, 0, 3, 60, Integer.MAX_VALUE}) {
            CHECK.yes("RULE 3", between(2).rewrite(3, 3, b));
            CHECK.yes("RULE 2", between(0).rewrite(2, 3, b));
        }
    }

    /** "(PHASES modulo 8 ...)" */
    private static void phasesModulo8() {
        for (int one = 1; one < 8; one++) {
            for (int two = 1; two < 8; two++) {
                String text = PHASES[one] + PHASES[two];
                RootHouse h = drawn("1:t0;" + text);
                CHECK.same("all together", h.reduce(), text.length() - text.replace(";", "").length());
                CHECK.same(text, h.spider(2, 0), 1 + one + two & 7);
            }
        }
    }

    /** "PLAIN and TURNED: PLAIN, and the PHASE of the one with the lesser number grows by 4" */
    private static void bothKindsComeTogether() {
        RootHouse h = drawn("2:t1;h1;0>z1;t0;0>z1;s1;h1;t1;");
        CHECK.yes("WIRE 1", h.rewrite(1, 6, 9));
        CHECK.yes("WIRE 1", h.rewrite(1, 6, 10));
        CHECK.same("PLAIN", h.spider(5, 107), 1);
        CHECK.same("PLAIN", h.spider(7, 108), 1);
        CHECK.yes("6 goes", h.rewrite(3, 6, 0));
        CHECK.same("TURNED", h.spider(5, 108), 2);
        CHECK.row("PHASES", i -> h.spider(i, 0), 4, 7, 6, -1, 1, 6, -1, -1, 7);
        CHECK.yes("7 goes to 5", h.rewrite(1, 5, 7));
        CHECK.same("PLAIN", h.spider(5, 108), 1);
        CHECK.row("PHASES", i -> h.spider(i, 0), 4, 7, 6 + 1 + 4 & 7, -1, -1, 6);
        RootHouse g = drawn("2:t1;h1;0>z1;h0;z0;z0;h0;0>z1;s1;h1;t1;");
        CHECK.yes("WIRE 1", g.rewrite(1, 6, 10));
        CHECK.yes("WIRE 1", g.rewrite(1, 6, 11));
        CHECK.yes("PHASE 0", g.rewrite(1, 7, 8));
        CHECK.yes("6 goes", g.rewrite(3, 6, 0));
        CHECK.same("TURNED", g.spider(5, 109), 2);
        CHECK.yes("7 goes", g.rewrite(2, 7, 0));
        CHECK.same("PLAIN", g.spider(9, 105), 1);
        CHECK.row("PHASES", i -> g.spider(i, 0), 4, 7, 6 + 4 & 7, -1, -1, -1, 6);
        CHECK.yes("9 goes to 5", g.rewrite(1, 5, 9));
        CHECK.row("TURNED and TURNED: none", what -> g.spider(5, what), 100, 1, 0, 1, 0, 0, 0, 0);
        CHECK.same("TURNED and TURNED: none", g.spider(5, 112), 0);
        CHECK.same("its PHASE", g.spider(5, 0), 0);
    }

    /** "again and again the first of these that can be done is: RULE 1 (of the least a, then the least b), 2 (least a), 3, 4 likewise" */
    private static void reducesByTheFirstRule() {
        RootHouse four = drawn("1:t0;h0;z0;h0;z0;h0;t0;");
        CHECK.same("RULE 4 once", four.reduce(), 1);
        CHECK.row("PHASES", i -> four.spider(i, 0), 2, 5, -1, -1, 5);
        RootHouse least = drawn("3:t0;t1;t2;h0;h1;h2;0>z1;0>z2;1>z2;h0;h1;h2;t0;t1;t2;");
        CHECK.same("RULE 1 three times, then 4 once", least.reduce(), 4);
        CHECK.row("9 and 10 are gone", i -> least.spider(i, 0), 6, 1, 1, 1, -1, -1, -1, 4, -1, -1, 1, 1, 1);
        RootHouse three = drawn("3:t0;t1;t2;h0;h1;h2;0>z1;0>z2;1>z2;s2;s1;h0;h1;h2;t0;t1;t2;");
        CHECK.yes("RULE 3, too", three.reduce() > 5);
        CHECK.same("10 is the least that it can be done with", three.spider(10, 0), -1);
        RootHouse two = drawn("1:t0;h0;z0;z0;h0;t0;");
        CHECK.same("RULE 1, 2, 1", two.reduce(), 3);
        CHECK.row("one is left", i -> two.spider(i, 0), 2, 2, -1, -1, -1);
    }

    /** "how many RULES were done" */
    private static void reducesNothing() {
        for (String text : new String[] {"1:", "4:", "1:t0;", "1:h0;t0;h0;", "2:0>z1;", "1:h0;s0;h0;"}) {
            RootHouse h = drawn(text);
            int spiders = h.total(3);
            CHECK.same(text, h.reduce(), 0);
            CHECK.same("as it was", h.total(3), spiders);
        }
        RootHouse h = drawn("1:t0;t0;");
        CHECK.same("one", h.reduce(), 1);
        CHECK.same("none", h.reduce(), 0);
    }

    /** meaning: "no such STARTS or part" */
    private static void meaningsOfStarts() {
        for (int n : new int[] {1, 2, 3, 4}) {
            RootHouse h = drawn(n + ":");
            CHECK.only("input", i -> h.meaning(i, 0, 0), 0, (1 << n) - 1);
            CHECK.only("output", i -> h.meaning(0, i, 0), 0, (1 << n) - 1);
            CHECK.only("part", part -> h.meaning(0, 0, part), 0, 4);
            int last = (1 << n) - 1;
            CHECK.row("the last ones", part -> h.meaning(last, last, part), 0, 1, 0, 0, 0, 0);
            CHECK.row("others", part -> h.meaning(last, 0, part), 0, 0, 0, 0, 0, 0);
        }
    }

    /** Each question has its own answer, whatever was asked ahead of it. */
    private static void meaningsOneByOne() {
        RootHouse h = drawn("4:");
        for (int i = 0; i < 16; i++) {
            for (int j = 0; j < 16; j++) {
                CHECK.same("1 or 0", h.meaning(i, j, 0), i == j ? 1 : 0);
            }
        }
        RootHouse g = drawn("4:");
        CHECK.same("1", g.meaning(8, 8, 0), 1);
        CHECK.same("0", g.meaning(0, 9, 0), 0);
        RootHouse f = drawn("1:t0;t0;");
        CHECK.row("i", part -> f.meaning(1, 1, part), 0, 0, 0, 1, 0, 0);
        f.rewrite(1, 2, 3);
        CHECK.row("i", part -> f.meaning(1, 1, part), 0, 0, 0, 1, 0, 0);
        f.diagram(Check.circuit(f, "1:t0;"));
        CHECK.row("w of another DIAGRAM", part -> f.meaning(1, 1, part), 0, 0, 1, 0, 0, 0);
        RootHouse e = drawn("1:x0;");
        CHECK.row("2", part -> e.meaning(0, 1, part), 0, 2, 0, 0, 0, 0);
        Check.circuit(e, "1:x0;z0;z0;");
        e.diagram(1);
        CHECK.row("2", part -> e.meaning(0, 1, part), 0, 2, 0, 0, 0, 0);
        e.rewrite(1, 3, 4);
        e.rewrite(2, 3, 0);
        CHECK.row("2", part -> e.meaning(0, 1, part), 0, 2, 0, 0, 0, 0);
    }

    /** "IllegalStateException: more than 12 SPIDERS but INPUTS and OUTPUTS are there" */
    private static void meaningsOf12() {
        for (int n = 1; n <= 4; n++) {
            for (int count = 11; count <= 14; count++) {
                RootHouse h = drawn(n + ":" + many(count, "t0;"));
                String due = count <= 12 ? "0" : "IllegalStateException";
                CHECK.same(count + " of " + n, Check.said(() -> h.meaning(1, 0, 0)), due);
                CHECK.same(count + " of " + n, Check.said(() -> h.meaning(1, 1, 4)), due);
                CHECK.same("no such part", Check.said(() -> h.meaning(0, 0, 5)), "NoSuchElementException");
                CHECK.same("no such START", Check.said(() -> h.meaning(16, 0, 0)), "NoSuchElementException");
            }
        }
        RootHouse h = drawn("1:" + many(13, "t0;"));
        CHECK.same("13", Check.said(() -> h.meaning(1, 1, 1)), "IllegalStateException");
        h.rewrite(1, 2, 3);
        CHECK.row("12 that are there", part -> h.meaning(1, 1, part), 0, 0, -1, 0, 0, 0);
    }

    /** A ROOT's k is 0 or more: what is above 1 stays as it is. */
    private static void meaningsOverOne() {
        RootHouse h = drawn("1:x0;");
        CHECK.row("2", part -> h.meaning(0, 1, part), 0, 2, 0, 0, 0, 0);
        CHECK.row("0", part -> h.meaning(0, 0, part), 0, 0, 0, 0, 0, 0);
        RootHouse g = drawn("1:x0;z0;x0;z0;x0;");
        CHECK.row("-8", part -> g.meaning(1, 0, part), 0, -8, 0, 0, 0, 0);
    }

    /** "no DIAGRAM" */
    private static void withoutADiagram() {
        RootHouse h = new RootHouse();
        Check.circuit(h, "1:t0;t0;");
        CHECK.same("reduce", h.reduce(), -1);
        CHECK.row("spider", what -> h.spider(0, what), -1, -1, -1, -1);
        CHECK.same("spider", h.spider(0, 101), -1);
        for (int rule = 1; rule <= 4; rule++) {
            CHECK.no("rewrite", h.rewrite(rule, 2, 3));
            CHECK.no("rewrite", h.rewrite(rule, 0, 1));
        }
        CHECK.same("meaning", Check.said(() -> h.meaning(0, 0, 0)), "NoSuchElementException");
        CHECK.same("SPIDERS", h.total(3), 0);
    }
}

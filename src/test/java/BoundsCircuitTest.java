/** Bounds of circuits that are there and of those that come of them: promises 3 to 9, 23, 24 and 51, 'IV', 'IX', 'XIII'. */
public final class BoundsCircuitTest {
    private static final Check CHECK = new Check("bounds of circuits");
    private static final int[] NO_CIRCUITS = {Integer.MIN_VALUE, -2, -1, 1, 2, 19, 20, Integer.MAX_VALUE};

    public static void main(String[] args) {
        twentyCircuits();
        twentyOf300();
        theTapeIsEmptyInAnyCase();
        whichFaultIsTold();
        cleared();
        looks();
        ops();
        characters();
        longestOp();
        derivedOfNone();
        derivedHow();
        secondCounts();
        twentyDerived();
        notAsManyWires();
        nineWires();
        notOfGates();
        tooManyOps();
        tooManyHs();
        mergedOps();
        mergedNothing();
        mergedExchanged();
        mergedAnew();
        cancelledOps();
        shortestOps();
        equalCan();
        equalStays();
        sameTold();
        turnCan();
        turnOfAllWires();
        turnTooLong();
        CHECK.end();
    }

    private static RootHouse house(String... texts) {
        RootHouse h = new RootHouse();
        for (String text : texts) {
            Check.circuit(h, text);
        }
        return h;
    }

    private static RootHouse full() {
        RootHouse h = house("2:h0;");
        for (int i = 1; i < 20; i++) {
            CHECK.same("one more", h.derive(0, 0, 0), i);
        }
        return h;
    }

    /** A row of just so many OPS. */
    private static String many(int count, String op) {
        return ("*9[" + op + "]").repeat(count / 9) + op.repeat(count % 9);
    }

    /** "its number, 0, 1, .. IllegalStateException: there are 20" */
    private static void twentyCircuits() {
        RootHouse h = new RootHouse();
        for (int i = 0; i < 20; i++) {
            CHECK.same("number " + i, Check.circuit(h, (1 + i % 8) + ":"), i);
            CHECK.same("circuits", h.total(0), i + 1);
        }
        for (String text : new String[] {"1:", "1:q", ""}) {
            CHECK.same("the 21st", Check.read(h, text), "IllegalStateException 0 0");
        }
        CHECK.same("circuits", h.total(0), 20);
        CHECK.same("the last one", h.look(19, 0), 4);
        CHECK.same("none behind it", h.look(20, 0), -1);
        h.clear();
        CHECK.same("from 0 on", Check.circuit(h, "8:"), 0);
    }

    /** As many OPS as there can be: each circuit keeps its own. */
    private static void twentyOf300() {
        RootHouse h = new RootHouse();
        String fifth = "*9[*6[x0;]]*4[x0;]x0;";
        for (int i = 0; i < 20; i++) {
            String first = i % 2 == 0 ? "h0;" : "s0;";
            String last = i % 3 == 0 ? "h0;" : "t0;";
            CHECK.same("number", Check.circuit(h, "1:" + first + "*5[" + fifth + "]x0;x0;x0;" + last), i);
        }
        for (int i = 0; i < 20; i++) {
            CHECK.same("OPS", h.look(i, 1), 300);
            CHECK.same("of kind 3", h.look(i, 2), (i % 2 == 0 ? 1 : 0) + (i % 3 == 0 ? 1 : 0));
            CHECK.same("the first one", h.op(i, 0, 0), i % 2 == 0 ? 3 : 4);
            CHECK.same("the second one", h.op(i, 1, 0), 0);
            CHECK.same("the last but one", h.op(i, 298, 0), 0);
            CHECK.same("the last one", h.op(i, 299, 0), i % 3 == 0 ? 3 : 5);
            CHECK.same("none behind it", h.op(i, 300, 0), -1);
        }
        h.clear();
        Check.circuit(h, "1:" + many(60, "h0;"));
        h.clear();
        Check.circuit(h, "1:x0;");
        Check.circuit(h, "1:h0;x0;h0;");
        CHECK.same("none of the old ones", h.look(0, 2), 0);
        CHECK.same("two", h.look(1, 2), 2);
        CHECK.same("none of the old ones", h.op(0, 1, 0), -1);
    }

    /** "it is empty then in any case, also with the first exception" */
    private static void theTapeIsEmptyInAnyCase() {
        RootHouse h = new RootHouse();
        Check.circuit(h, "1:");
        CHECK.same("behind a circuit", h.total(1), 0);
        Check.read(h, "1:q");
        CHECK.same("behind a FAULT", h.total(1), 0);
        Check.read(h, "1:" + many(301, "x0;"));
        CHECK.same("behind a FAULT", h.total(1), 0);
        RootHouse g = full();
        Check.read(g, "1:");
        CHECK.same("behind the first exception", g.total(1), 0);
        g.clear();
        CHECK.same("nothing of it is left", Check.read(g, ":"), "IllegalArgumentException 1 0");
    }

    /** "The FAULT of the latest circuit() that threw no IllegalStateException, or code() ... 0 ahead of any" */
    private static void whichFaultIsTold() {
        RootHouse h = new RootHouse();
        CHECK.row("ahead of any", h::fault, -2, -1, -1, 0, 0, -1, -1);
        CHECK.same("another what", h.fault(Integer.MAX_VALUE), -1);
        CHECK.same("another what", h.fault(Integer.MIN_VALUE), -1);
        CHECK.same("a FAULT", Check.read(h, "1: x1;"), "IllegalArgumentException 2 4");
        CHECK.row("of circuit()", h::fault, -1, -1, 2, 4, -1);
        Check.type(h, "XX, ZI");
        CHECK.same("no CODE", Check.said(h::code), "IllegalArgumentException");
        CHECK.row("of code()", h::fault, -1, -1, 2, 4, -1);
        Check.type(h, "XX,Q");
        CHECK.same("no CODE", Check.said(h::code), "IllegalArgumentException");
        CHECK.row("of code()", h::fault, -1, -1, 1, 3, -1);
        CHECK.same("without", Check.read(h, "1:x0;"), "0 0 0");
        CHECK.same("a FAULT", Check.read(h, "1:0>x0;"), "IllegalArgumentException 3 5");
        Check.type(h, "XX,ZZ");
        CHECK.same("a CODE", h.code(), 0);
        CHECK.row("without", h::fault, 0, 0, 0);
        RootHouse g = full();
        Check.type(g, "II");
        CHECK.same("no CODE", Check.said(g::code), "IllegalArgumentException");
        CHECK.same("circuit() with 20 tells none", Check.read(g, "1:q"), "IllegalStateException 3 0");
        g.clear();
        CHECK.row("it stays", g::fault, 0, 3, 0);
    }

    /** "All circuits, the RUN and the DIAGRAM are gone." */
    private static void cleared() {
        RootHouse h = house("2:h0;0>x1;", "1:t0;");
        h.begin(0, 0, 0);
        h.diagram(0);
        h.form(1);
        h.equal(0, 0);
        h.table(3);
        h.density(1, 0);
        h.link(0, 1, true);
        h.route(0);
        h.term(1, 0, 1, 0);
        Check.type(h, "1:");
        h.clear();
        CHECK.row("total", h::total, 0, 0, 2, 3, 0, 1, 0, 1, 0);
        CHECK.same("no circuit", h.look(0, 0), -1);
        CHECK.same("no RUN", h.state(0), -1);
        CHECK.same("no RUN", Check.said(() -> h.run(1)), "IllegalStateException");
        CHECK.same("no RUN", Check.said(() -> h.amplitude(0, 0)), "NoSuchElementException");
        CHECK.same("no DIAGRAM", h.reduce(), -1);
        CHECK.same("no DIAGRAM", h.spider(0, 0), -1);
        CHECK.same("no DIAGRAM", Check.said(() -> h.meaning(0, 0, 0)), "NoSuchElementException");
        CHECK.same("THE FORM is told", h.letter(0), 't');
        CHECK.same("same() is told", h.same(), 0);
        CHECK.same("the DENSITY is there", h.entry(0, 0, 0), 1);
        CHECK.same("the TAPE is there", h.circuit(), 0);
        h.clear();
        h.clear();
        CHECK.same("none", h.total(0), 0);
    }

    /** look: "NONE if there is none such, or for another what" */
    private static void looks() {
        RootHouse h = house("3:h0;1>h2;x0;");
        CHECK.row("look", w -> h.look(0, w), -2, -1, -1, 3, 3, 2, 13, -1, -1);
        CHECK.same("another what", h.look(0, Integer.MAX_VALUE), -1);
        CHECK.same("another what", h.look(0, Integer.MIN_VALUE), -1);
        for (int c : NO_CIRCUITS) {
            for (int what = 0; what < 4; what++) {
                CHECK.same("no circuit " + c, h.look(c, what), -1);
            }
        }
        RootHouse g = house("8:");
        CHECK.row("of nothing", w -> g.look(0, w), 0, 8, 0, 0, 2);
    }

    /** op: "NONE if there is none such, or for another what" */
    private static void ops() {
        RootHouse h = house("8:x0;7>6>-t5;m73;w70;?3[!0[r1;]]", "1:");
        CHECK.row("the first", w -> h.op(0, 0, w), -1, -1, 0, 0, 0, 0, 0, 0, -1);
        CHECK.row("with CONTROLS", w -> h.op(0, 1, w), -1, -1, 7, 5, 0, 192, 0, 0, -1);
        CHECK.row("m", w -> h.op(0, 2, w), -1, -1, 9, 7, 3, 0, 0, 0, -1);
        CHECK.row("w", w -> h.op(0, 3, w), -1, -1, 8, 7, 0, 0, 0, 0, -1);
        CHECK.row("the last", w -> h.op(0, 4, w), -1, -1, 10, 1, 0, 0, 8, 1, -1);
        for (int what = 0; what < 6; what++) {
            for (int i : new int[] {Integer.MIN_VALUE, -1, 5, 6, 300, Integer.MAX_VALUE}) {
                CHECK.same("no OP " + i, h.op(0, i, what), -1);
            }
            CHECK.same("no OP at all", h.op(1, 0, what), -1);
            for (int c : new int[] {-1, 2, 20, Integer.MIN_VALUE, Integer.MAX_VALUE}) {
                CHECK.same("no circuit " + c, h.op(c, 0, what), -1);
            }
        }
        CHECK.same("another what", h.op(0, 0, Integer.MAX_VALUE), -1);
        CHECK.same("another what", h.op(0, 0, Integer.MIN_VALUE), -1);
    }

    /** written: "NONE if there is none such" */
    private static void characters() {
        RootHouse h = house("1:x0;", "8:");
        CHECK.row("characters", k -> h.written(0, k), -2, -1, -1, '1', ':', 'x', '0', ';', -1, -1);
        CHECK.row("without OPS", k -> h.written(1, k), -1, -1, '8', ':', -1);
        CHECK.same("no character", h.written(0, Integer.MAX_VALUE), -1);
        CHECK.same("no character", h.written(0, Integer.MIN_VALUE), -1);
        for (int c : new int[] {-1, 2, 20, Integer.MIN_VALUE, Integer.MAX_VALUE}) {
            CHECK.same("no circuit " + c, h.written(c, 0), -1);
        }
    }

    /** All BITS, of both kinds, and all WIRES: the most that an OP can have. */
    private static void longestOp() {
        String asked = "?0[!0[?1[!1[?2[!2[?3[!3[";
        for (String op : new String[] {"0>1>2>3>4>5>6>-t7;", "1>2>3>4>5>6>7>-s0;", "0>1>2>3>4>5>w76;", "m73;", "r7;", "x0;"}) {
            String text = "8:" + asked + op + "]]]]]]]]";
            RootHouse h = house(text, text);
            CHECK.same("WRITTEN", h.look(0, 3), text.length());
            CHECK.same("WRITTEN", Check.written(h, 0), text);
            CHECK.same("BITS that must be 1", h.op(1, 0, 4), 15);
            CHECK.same("BITS that must be 0", h.op(1, 0, 5), 15);
        }
        RootHouse h = house("1:!3[?3[!1[?0[!3[x0;]]]]]");
        CHECK.same("each BIT from 0 on", Check.written(h, 0), "1:?0[!1[?3[!3[x0;]]]]");
    }

    /** derive: "NONE if there is no such c (d, for 1 and 3)" */
    private static void derivedOfNone() {
        RootHouse h = house("2:h0;");
        for (int how = 0; how <= 6; how++) {
            for (int c : NO_CIRCUITS) {
                CHECK.same("no such c", h.derive(how, c, 0), -1);
            }
        }
        for (int d : NO_CIRCUITS) {
            CHECK.same("no such d", h.derive(1, 0, d), -1);
            CHECK.same("no such d", h.derive(3, 0, d), -1);
        }
        CHECK.same("no more circuits", h.total(0), 1);
        CHECK.same("nothing there", new RootHouse().derive(0, 0, 0), -1);
    }

    /** "(d counts for nothing but for 1 and 3)" */
    private static void secondCounts() {
        for (int how : new int[] {0, 2, 4, 5, 6}) {
            for (int d : NO_CIRCUITS) {
                RootHouse h = house("2:x0;");
                CHECK.same("d counts for nothing", h.derive(how, 0, d), 1);
            }
            RootHouse g = house("2:x0;", "8:m00;");
            CHECK.same("d counts for nothing", g.derive(how, 0, 1), 2);
        }
    }

    /** "NONE if there is no such ... how" */
    private static void derivedHow() {
        for (int how : new int[] {Integer.MIN_VALUE, -2, -1, 0, 1, 2, 3, 4, 5, 6, 7, 8, Integer.MAX_VALUE}) {
            RootHouse h = house("2:x0;");
            boolean is = how >= 0 && how <= 6;
            CHECK.same("how " + how, h.derive(how, 0, 0), is ? 1 : -1);
            CHECK.same("circuits", h.total(0), is ? 2 : 1);
        }
    }

    /** "there are 20" */
    private static void twentyDerived() {
        RootHouse h = house("2:x0;");
        for (int i = 1; i < 20; i++) {
            CHECK.same("number " + i, h.derive(i % 7, 0, 0), i);
        }
        for (int how = 0; how <= 6; how++) {
            CHECK.same("there are 20", h.derive(how, 0, 0), -1);
        }
        CHECK.same("there are 20", h.turn(0, 1, 0, 1), -1);
        CHECK.same("there are 20", h.least(0xFAC688), -1);
        CHECK.same("there are 20", h.route(0), -1);
        CHECK.same("as many", h.total(0), 20);
    }

    /** "they have not as many WIRES" */
    private static void notAsManyWires() {
        for (int n = 1; n <= 8; n++) {
            for (int other = 1; other <= 8; other++) {
                for (int how = 1; how <= 3; how += 2) {
                    RootHouse h = house(n + ":x0;", other + ":x0;");
                    CHECK.same(n + " and " + other, h.derive(how, 0, 1), n == other ? 2 : -1);
                }
            }
        }
    }

    /** "it would have 9" */
    private static void nineWires() {
        for (int n = 1; n <= 8; n++) {
            RootHouse h = house(n + ":x0;");
            CHECK.same("one WIRE more than " + n, h.derive(2, 0, 0), n < 8 ? 1 : -1);
            CHECK.same("WIRES", h.look(1, 0), n < 8 ? n + 1 : -1);
            CHECK.same("CONTROLS", h.op(1, 0, 3), n < 8 ? 1 << n : -1);
        }
    }

    /** "m, r or BITS (but for 1)" */
    private static void notOfGates() {
        for (String text : new String[] {"2:m00;", "2:r0;", "2:?0[x0;]", "2:!3[x0;]", "2:x0;x0;m00;", "2:r0;x0;", "2:x0;!0[x0;]"}) {
            for (int how = 0; how <= 6; how++) {
                RootHouse h = house(text, "2:x0;");
                CHECK.same(text + " how " + how, h.derive(how, 0, 1), how == 1 ? 2 : -1);
            }
            RootHouse h = house(text, "2:x0;");
            CHECK.same("as d", h.derive(3, 1, 0), -1);
            CHECK.same("as d", h.derive(1, 1, 0), 2);
        }
    }

    /** "too many OPS" */
    private static void tooManyOps() {
        for (int count : new int[] {148, 149, 150, 151, 152}) {
            RootHouse h = house("2:" + many(150, "x0;"), "2:" + many(count, "y1;"));
            CHECK.same("150 and " + count, h.derive(1, 0, 1), count <= 150 ? 2 : -1);
            CHECK.same("OPS", h.look(2, 1), count <= 150 ? 150 + count : -1);
        }
        for (int count : new int[] {99, 100, 101, 102}) {
            RootHouse h = house("2:" + many(count, "x0;"), "2:" + many(100, "y1;"));
            CHECK.same("twice 100 and " + count, h.derive(3, 0, 1), count <= 100 ? 2 : -1);
            CHECK.same("OPS", h.look(2, 1), count <= 100 ? 200 + count : -1);
        }
        RootHouse most = house("2:" + many(300, "x0;"), "2:", "2:x0;");
        CHECK.same("300 and nothing", most.derive(1, 0, 1), 3);
        CHECK.same("300 and one", most.derive(1, 0, 2), -1);
        CHECK.same("nothing about 300", most.derive(3, 0, 1), 4);
        CHECK.same("300 about nothing", most.derive(3, 1, 0), -1);
        CHECK.same("one about 300", most.derive(3, 0, 2), -1);
        CHECK.same("the inverse of 300", most.derive(0, 0, 0), 5);
        CHECK.same("300 with a CONTROL", most.derive(2, 0, 0), 6);
        CHECK.same("300 MERGED", most.derive(4, 0, 0), 7);
        CHECK.same("300 CANCELLED", most.derive(5, 0, 0), 8);
        CHECK.same("nothing is left", most.look(8, 1), 0);
        CHECK.same("300 SHORTEST", most.derive(6, 0, 0), 9);
        CHECK.same("nothing is left", most.look(9, 1), 0);
        CHECK.same("300 as they were", most.look(7, 1), 300);
    }

    /** "or of kind 3" */
    private static void tooManyHs() {
        for (int count : new int[] {29, 30, 31, 32}) {
            RootHouse h = house("2:" + many(30, "h0;"), "2:" + many(count, "0>h1;"));
            CHECK.same("30 and " + count, h.derive(1, 0, 1), count <= 30 ? 2 : -1);
            CHECK.same("of kind 3", h.look(2, 2), count <= 30 ? 30 + count : -1);
        }
        for (int count : new int[] {19, 20, 21, 22}) {
            RootHouse h = house("2:" + many(count, "h0;"), "2:" + many(20, "h1;"));
            CHECK.same("twice 20 and " + count, h.derive(3, 0, 1), count <= 20 ? 2 : -1);
        }
        RootHouse most = house("2:" + many(60, "h0;"), "2:", "2:h0;", "2:x0;");
        CHECK.same("60 and x", most.derive(1, 0, 3), 4);
        CHECK.same("60 and one", most.derive(1, 0, 2), -1);
        CHECK.same("60 with a CONTROL", most.derive(2, 0, 0), 5);
        CHECK.same("the inverse of 60", most.derive(0, 0, 0), 6);
        CHECK.same("one about 60", most.derive(3, 0, 2), -1);
        CHECK.same("x about 60", most.derive(3, 0, 3), 7);
    }

    private static void derived(int how, String text, String due) {
        RootHouse h = house(text);
        int d = h.derive(how, 0, 0);
        CHECK.same(text + " how " + how, d == -1 ? "none" : Check.written(h, d), due);
        CHECK.same(text + " circuits", h.total(0), d == -1 ? 1 : 2);
    }

    /** "(4, 6) c has OPS that can't be": "of kind 0 with at most one CONTROL, 2, 4 to 7, 8 without" */
    private static void mergedOps() {
        for (String op : new String[] {"x0;", "1>x0;", "2>x0;", "z0;", "s0;", "t0;", "-s0;", "-t0;", "w01;"}) {
            derived(4, "3:" + op, "3:" + op);
        }
        for (String op : new String[] {"y0;", "h0;", "1>2>x0;", "1>z0;", "1>s0;", "1>t0;", "1>-s0;", "1>-t0;", "2>w01;",
            "1>y0;", "1>h0;"}) {
            derived(4, "3:" + op, "none");
            derived(4, "3:x0;t1;" + op, "none");
            derived(4, "3:" + op + "x0;t1;", "none");
        }
        derived(4, "8:7>6>x0;", "none");
        derived(4, "8:7>x0;", "8:7>x0;");
        derived(4, "1:", "1:");
    }

    /** "modulo 8 ...: 1: t, 2: s, 3: s, then t, 4: z, 5: z, then t, 6, 7: these kinds; 0: nothing" */
    private static void mergedNothing() {
        String[] due = {"", "t0;", "s0;", "s0;t0;", "z0;", "z0;t0;", "-s0;", "-t0;"};
        String[] turned = {"", "-t0;", "-s0;", "z0;t0;", "z0;", "s0;t0;", "s0;", "t0;"};
        for (int e = 0; e <= 17; e++) {
            derived(4, "1:" + "t0;".repeat(e), "1:" + due[e % 8]);
            derived(4, "1:x0;" + "-t0;".repeat(e), "1:x0;" + turned[e % 8]);
            derived(4, "1:x0;" + "t0;".repeat(e) + "x0;", "1:x0;" + due[e % 8] + "x0;");
            derived(4, "1:-t0;x0;" + "-t0;".repeat(e), "1:" + (e == 0 ? "-t0;x0;" : due[(e + 7) % 8] + "x0;"));
        }
        String all = "8:0>x1;1>x2;2>x3;3>x4;4>x5;5>x6;6>x7;";
        derived(4, all + "t7;x0;t7;x7;-t7;", all + "s7;t7;x0;x7;");
        derived(4, "8:t0;t1;t2;t3;t4;t5;t6;t7;", "8:t0;t1;t2;t3;t4;t5;t6;t7;");
        derived(4, "2:z0;t0;0>x1;t1;0>x1;t1;", "2:z0;t0;0>x1;t1;0>x1;t1;");
    }

    /** "w: both change places": PARITY, and TURNED or not */
    private static void mergedExchanged() {
        derived(4, "2:t0;x0;w01;t1;", "2:x0;w01;");
        derived(4, "2:t1;x0;w01;t0;", "2:s1;x0;w01;");
        derived(4, "2:t0;x1;w01;t1;", "2:s0;x1;w01;");
        derived(4, "2:t1;x1;w01;t0;", "2:x1;w01;");
        derived(4, "2:t0;t1;x0;x1;w01;t0;t1;", "2:x0;x1;w01;");
        derived(4, "2:t0;t1;w01;t0;t1;", "2:s0;s1;w01;");
        derived(4, "3:t2;x2;w12;w01;t0;", "3:x2;w12;w01;");
        derived(4, "3:t1;x2;w12;w01;t2;", "3:s1;x2;w12;w01;");
        derived(4, "3:t0;x2;w12;w01;t1;", "3:s0;x2;w12;w01;");
        derived(4, "3:t0;x2;w20;t2;", "3:s0;x2;w20;");
        derived(4, "3:t2;x2;w20;t0;", "3:x2;w20;");
        derived(4, "3:t0;x1;1>x0;t0;1>x0;t0;", "3:s0;x1;1>x0;t0;1>x0;");
        derived(4, "3:x1;1>x0;t0;x0;t0;", "3:x1;1>x0;x0;");
        derived(4, "4:x1;t3;0>x2;t3;", "4:x1;s3;0>x2;");
        derived(4, "4:x0;t2;0>x1;t2;t1;0>x1;t1;", "4:x0;s2;0>x1;t1;0>x1;t1;");
        derived(4, "4:x0;t1;0>x1;0>x1;t1;", "4:x0;s1;0>x1;0>x1;");
    }

    /** One that is refused leaves nothing behind. */
    private static void mergedAnew() {
        RootHouse h = house("2:t0;t1;0>x1;t1;h0;", "2:t0;0>x1;t1;");
        CHECK.same("refused", h.derive(4, 0, 0), -1);
        CHECK.same("another one", h.derive(4, 1, 0), 2);
        CHECK.same("as it is", Check.written(h, 2), "2:t0;0>x1;t1;");
        CHECK.same("again", h.derive(4, 1, 0), 3);
        CHECK.same("as it is", Check.written(h, 3), "2:t0;0>x1;t1;");
    }

    /** CANCELLED: "if 1, 2, 4, 6, 7, OP i becomes ..., and j goes", "0, both go"; with 3 and 5 both stay */
    private static void cancelledOps() {
        String[] ops = {"", "t0;", "s0;", "", "z0;", "", "-s0;", "-t0;"};
        for (int one = 1; one < 8; one++) {
            for (int two = 1; two < 8; two++) {
                String both = ops[one] + ops[two];
                if (!ops[one].isEmpty() && !ops[two].isEmpty()) {
                    int sum = (one + two) % 8;
                    derived(5, "1:" + both, "1:" + (sum == 3 || sum == 5 ? both : ops[sum]));
                }
            }
        }
        for (String op : new String[] {"x0;", "y0;", "z0;", "h0;", "1>x0;", "1>2>h0;", "w01;", "2>w01;"}) {
            derived(5, "3:" + op + op, "3:");
            derived(5, "3:" + op + op + op, "3:" + op);
            derived(5, "3:" + op + "t0;" + op, "3:" + op + "t0;" + op);
        }
        derived(5, "3:2>w01;2>w10;", "3:");
        derived(5, "3:w01;w12;", "3:w01;w12;");
        derived(5, "3:x0;y0;", "3:x0;y0;");
        derived(5, "3:x0;1>x0;", "3:x0;1>x0;");
        derived(5, "3:1>x0;2>x0;1>x0;", "3:1>x0;2>x0;1>x0;");
        derived(5, "3:1>x0;x2;1>x0;", "3:x2;");
        derived(5, "3:1>x0;x1;1>x0;", "3:1>x0;x1;1>x0;");
        derived(5, "3:w01;x2;w10;", "3:x2;");
        derived(5, "3:w01;x1;w10;", "3:w01;x1;w10;");
        derived(5, "3:x2;x0;2>x1;x0;x2;", "3:x2;2>x1;x2;");
        derived(5, "3:1>t0;1>t0;1>t0;", "3:1>s0;1>t0;");
        derived(5, "1:", "1:");
    }

    /** "SHORTEST, of two WIRES (N is 2; OPS of kinds 0 to 4, 6, 8 without CONTROLS, 0 to 2 with one)" */
    private static void shortestOps() {
        for (int n = 1; n <= 8; n++) {
            derived(6, n + ":", n == 2 ? "2:" : "none");
            derived(6, n + ":h0;", n == 2 ? "2:h0;" : "none");
        }
        for (String op : new String[] {"x0;", "y0;", "z0;", "h0;", "s0;", "-s0;", "w01;", "1>x0;", "1>y0;", "1>z0;"}) {
            RootHouse h = house("2:" + op);
            CHECK.same(op, h.derive(6, 0, 0), 1);
            CHECK.same(op + " is EQUAL", h.equal(0, 1), 1);
        }
        for (String op : new String[] {"t0;", "-t0;", "1>h0;", "1>s0;", "1>-s0;", "1>t0;"}) {
            derived(6, "2:" + op, "none");
            derived(6, "2:" + op + "h0;", "none");
            derived(6, "2:h0;" + op, "none");
        }
        derived(6, "2:" + many(300, "s0;"), "2:");
        derived(6, "2:" + many(299, "s1;"), "2:s1;s1;s1;");
    }

    /** equal: "they have m, r or BITS, not as many WIRES, or more than 5" */
    private static void equalCan() {
        for (int n = 1; n <= 8; n++) {
            RootHouse h = house(n + ":", n + ":x0;x0;");
            CHECK.same(n + " WIRES", h.equal(0, 1), n <= 5 ? 1 : -1);
            CHECK.same("same", h.same(), n <= 5 ? 0 : -100);
            for (int other = 1; other <= 5; other++) {
                RootHouse g = house(n + ":", other + ":");
                CHECK.same(n + " and " + other, g.equal(0, 1), n == other ? 1 : -1);
            }
        }
        for (String text : new String[] {"2:m00;", "2:r0;", "2:?0[x0;]", "2:!3[x0;]", "2:x0;m00;", "2:r0;x0;"}) {
            RootHouse h = house(text, "2:");
            CHECK.same(text, h.equal(0, 1), -1);
            CHECK.same(text, h.equal(1, 0), -1);
            CHECK.same(text, h.equal(0, 0), -1);
            CHECK.same("none", h.same(), -100);
        }
        RootHouse h = house("2:");
        for (int c : NO_CIRCUITS) {
            CHECK.same("no such circuit", h.equal(0, c), -1);
            CHECK.same("no such circuit", h.equal(c, 0), -1);
            CHECK.same("no such circuit", h.equal(c, c), -1);
        }
    }

    /** "NONE (what same() tells stays)"; "-100 without any" */
    private static void equalStays() {
        RootHouse h = house("1:t0;", "1:", "2:", "6:", "1:m00;");
        CHECK.same("without any", h.same(), -100);
        CHECK.same("refused", h.equal(0, 2), -1);
        CHECK.same("without any that told", h.same(), -100);
        CHECK.same("not EQUAL", h.equal(0, 1), 0);
        for (int d : new int[] {2, 3, 4, 5, -1}) {
            CHECK.same("refused", h.equal(0, d), -1);
            CHECK.same("it stays", h.same(), -2);
        }
        CHECK.same("EQUAL", h.equal(0, 0), 1);
        CHECK.same("the latest", h.same(), 0);
    }

    private static void equal(String one, String two, int same) {
        RootHouse h = house(one, two);
        CHECK.same(one + " and " + two, h.equal(0, 1), same >= 0 ? 1 : 0);
        CHECK.same(one + " and " + two, h.same(), same);
    }

    /** "a power of w (the least of 0 .. 7)" and "the least START s so that there is no such power for the columns 0 .. s" */
    private static void sameTold() {
        for (int e = 0; e < 9; e++) {
            equal("1:" + "t0;x0;t0;x0;".repeat(e), "1:", e % 8);
            equal("5:", "5:" + "t0;x0;t0;x0;".repeat(e), (16 - e) % 8);
        }
        for (int start = 0; start < 32; start++) {
            StringBuilder text = new StringBuilder("5:");
            for (int i = 0; i < 5; i++) {
                text.append((start >> i & 1) == 0 ? "x" + i + ";" : "");
            }
            String flips = text.substring(2);
            // Where START 0 alone is turned, the next column is the first for which there is no power.
            equal(text + "0>1>2>3>z4;" + flips, "5:", start == 0 ? -2 : -1 - start);
        }
        equal("1:x0;", "1:", -1);
        equal("1:h0;", "1:", -1);
        equal("3:1>2>h0;", "3:", -7);
        equal("3:1>2>h0;", "3:1>2>x0;1>2>h0;", -7);
        equal("3:1>2>h0;1>2>h0;", "3:", 0);
        equal("4:1>2>3>h0;", "4:1>2>3>h0;3>z2;3>z2;", 0);
        equal("4:1>2>3>h0;", "4:1>2>3>h0;1>2>3>z0;", -15);
        equal("5:h0;h1;h2;h3;h4;", "5:h4;h3;h2;h1;h0;", 0);
        equal("5:0>1>2>3>x4;", "5:", -16);
    }

    /** turn: "no such PAULI of its WIRES, e, it is without x's and z's" */
    private static void turnCan() {
        for (int n = 1; n <= 8; n++) {
            int all = (1 << n) - 1;
            int[][] can = {{1, 0}, {0, 1}, {all, all}, {all, 0}, {0, all}, {1 << n - 1, 0}, {0, 1 << n - 1}};
            for (int[] sets : can) {
                RootHouse h = house(n + ":");
                CHECK.same("a PAULI of " + n, h.turn(0, sets[0], sets[1], 1), 1);
                CHECK.same("WIRES", h.look(1, 0), n);
            }
            int[][] cannot = {{0, 0}, {all + 1, 0}, {0, all + 1}, {all + 2, 1}, {1, all + 2}, {-1, 0}, {0, -1},
                {Integer.MIN_VALUE, 1}, {1, Integer.MIN_VALUE}, {256, 0}, {0, 256}, {all + 1, all + 1}, {all + 2, all + 2}, {-1, -1}};
            RootHouse h = house(n + ":");
            for (int[] sets : cannot) {
                CHECK.same("no PAULI of " + n, h.turn(0, sets[0], sets[1], 1), -1);
            }
        }
        for (int e : new int[] {Integer.MIN_VALUE, -8, -1, 0, 7, 8, 9, Integer.MAX_VALUE}) {
            RootHouse h = house("1:");
            CHECK.same("e " + e, h.turn(0, 1, 0, e), e == 0 || e == 7 ? 1 : -1);
        }
        RootHouse h = house("1:m00;r0;?0[x0;]!1[m03;]");
        for (int c : NO_CIRCUITS) {
            CHECK.same("no such circuit", h.turn(c, 1, 0, 1), -1);
        }
        CHECK.same("m, r and BITS may be", h.turn(0, 0, 1, 0), 1);
        CHECK.same("as they are", Check.written(h, 1), Check.written(h, 0));
        String[] eighths = {"", "t0;", "s0;", "s0;t0;", "z0;", "z0;t0;", "-s0;", "-t0;"};
        for (int e = 0; e < 8; e++) {
            RootHouse g = house("1:");
            g.turn(0, 0, 1, e);
            CHECK.same("eighths", Check.written(g, 1), "1:" + eighths[e]);
        }
    }

    /** Of 8 WIRES: "from the least WIRE of P to the next one and so on" */
    private static void turnOfAllWires() {
        RootHouse h = house("8:");
        CHECK.same("y of all", h.turn(0, 255, 255, 3), 1);
        StringBuilder text = new StringBuilder("8:");
        for (int i = 0; i < 8; i++) {
            text.append("-s" + i + ";h" + i + ";");
        }
        for (int i = 0; i < 7; i++) {
            text.append(i + ">x" + (i + 1) + ";");
        }
        text.append("s7;t7;");
        for (int i = 6; i >= 0; i--) {
            text.append(i + ">x" + (i + 1) + ";");
        }
        for (int i = 0; i < 8; i++) {
            text.append("h" + i + ";s" + i + ";");
        }
        CHECK.same("y of all", Check.written(h, 1), text.toString());
        RootHouse g = house("8:x3;");
        CHECK.same("of the first and the last", g.turn(0, 128, 1, 1), 1);
        CHECK.same("of the first and the last", Check.written(g, 1), "8:x3;h7;0>x7;t7;0>x7;h7;");
        RootHouse f = house("8:");
        CHECK.same("of the last", f.turn(0, 128, 128, 6), 1);
        CHECK.same("of the last", Check.written(f, 1), "8:-s7;h7;-s7;h7;s7;");
    }

    /** "there are 20, or it would have too many OPS or of kind 3" */
    private static void turnTooLong() {
        int[] longer = {0, 1, 1, 2, 1, 2, 1, 1};
        for (int e = 0; e < 8; e++) {
            for (int count = 290; count <= 300; count++) {
                RootHouse h = house("2:" + many(count, "x0;"));
                boolean fits = count + 4 + 2 + longer[e] <= 300;
                CHECK.same("from " + count + " by " + e, h.turn(0, 1, 3, e), fits ? 1 : -1);
                CHECK.same("circuits", h.total(0), fits ? 2 : 1);
            }
        }
        for (int count = 56; count <= 60; count++) {
            RootHouse h = house("2:" + many(count, "h0;"));
            CHECK.same("two more than " + count, h.turn(0, 1, 0, 1), count <= 58 ? 1 : -1);
            CHECK.same("four more than " + count, h.turn(0, 3, 3, 1), count <= 56 ? 2 : -1);
            CHECK.same("none more than " + count, h.turn(0, 0, 3, 1), count <= 56 ? 3 : count <= 58 ? 2 : 1);
        }
        RootHouse h = full();
        CHECK.same("there are 20", h.turn(0, 1, 0, 1), -1);
    }
}

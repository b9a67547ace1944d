/** Bounds of RUNS and their STATES, of the TABLE and of FAULTY PAULIS: 'II', 'III', 'X' and promises 10 to 22 and 40. */
public final class BoundsRunTest {
    private static final Check CHECK = new Check("bounds of runs");
    private static final int[] UP_TO_8 = {1, 2, 3, 4, 5, 6, 7, 8};
    private static final String NONE_SUCH = "NoSuchElementException";

    public static void main(String[] args) {
        begins();
        beginsAgain();
        oneTo400();
        noneOrAllDone();
        passedOver();
        eachWhenItsTurnComes();
        aNewObject();
        states();
        bitsAtFirst();
        onlyOutcome();
        tapeFromTheLowest();
        tapeOf64();
        resetTakesTape();
        roots();
        weights();
        expectations();
        mixtures();
        levels();
        groupRows();
        leastPowers();
        withoutARun();
        tablesOf1To20();
        gatesOfTheTable();
        measuredOfTheTable();
        rowsOfTheTable();
        faultyPlaces();
        faultyPaulis();
        faultyOps();
        CHECK.end();
    }

    private static RootHouse begun(String text, int start, long tape) {
        RootHouse h = new RootHouse();
        Check.circuit(h, text);
        CHECK.yes(text + " begins", h.begin(0, start, tape));
        return h;
    }

    private static RootHouse run(String text, int start, long tape) {
        RootHouse h = begun(text, start, tape);
        h.run(400);
        return h;
    }

    private static String many(int count, String op) {
        return ("*9[" + op + "]").repeat(count / 9) + op.repeat(count % 9);
    }

    /** begin: "a START": 0 .. 2^N - 1; "false if there is none such" */
    private static void begins() {
        for (int n : UP_TO_8) {
            for (int start : new int[] {Integer.MIN_VALUE, -1, 0, (1 << n) - 1, 1 << n, 256, Integer.MAX_VALUE}) {
                RootHouse h = new RootHouse();
                Check.circuit(h, n + ":");
                boolean is = start >= 0 && start < 1 << n;
                CHECK.same("START " + start + " of " + n, h.begin(0, start, -1) ? 1 : 0, is ? 1 : 0);
                CHECK.same("a RUN", h.state(0), is ? 0 : -1);
                CHECK.same("its ROOT", Check.said(() -> h.amplitude(start, 0)), is ? "1" : NONE_SUCH);
            }
        }
        RootHouse h = new RootHouse();
        CHECK.no("nothing there", h.begin(0, 0, 0));
        Check.circuit(h, "1:");
        Check.circuit(h, "2:");
        for (int c : new int[] {Integer.MIN_VALUE, -1, 2, 20, Integer.MAX_VALUE}) {
            CHECK.no("no circuit " + c, h.begin(c, 0, 0));
        }
        CHECK.no("a START of the other", h.begin(0, 2, 0));
        CHECK.yes("the last circuit", h.begin(1, 2, 0));
        CHECK.same("its number", h.state(0), 1);
    }

    /** "A call that ... answers false ... changes nothing" */
    private static void beginsAgain() {
        RootHouse h = begun("2:h0;m00;x1;", 2, 1);
        h.run(2);
        h.begin(0, 4, 0);
        h.begin(0, -1, 0);
        h.begin(1, 0, 0);
        h.begin(-1, 0, 0);
        CHECK.row("as it was", h::state, 0, 0, 2, 1, 1, 0, 0, 0, 1);
        CHECK.row("as it was", part -> h.amplitude(3, part), 0, 1, 0, 0, 0, 1);
        CHECK.yes("it begins again", h.begin(0, 1, 0));
        CHECK.row("all anew", h::state, 0, 0, 0, 0, 0, 0, 0, 0, 1);
        CHECK.row("all anew", part -> h.amplitude(1, part), 0, 1, 0, 0, 0, 0);
        CHECK.same("of the old one nothing", h.amplitude(3, 0), 0);
    }

    /** run: "At most n (1 .. 400) OPS"; "IllegalArgumentException: another n" */
    private static void oneTo400() {
        for (int n : new int[] {Integer.MIN_VALUE, -1, 0, 401, 402, Integer.MAX_VALUE}) {
            RootHouse h = begun("1:x0;", 0, 0);
            CHECK.same("another n: " + n, Check.said(() -> h.run(n)), "IllegalArgumentException");
            CHECK.same("nothing is done", h.state(1), 0);
            CHECK.same("nothing is done", h.amplitude(0, 0), 1);
        }
        RootHouse h = begun("1:" + many(300, "x0;"), 0, 0);
        CHECK.same("one", h.run(1), 1);
        CHECK.same("298 more", h.run(298), 298);
        CHECK.same("done", h.state(1), 299);
        CHECK.same("one is left", h.run(400), 1);
        RootHouse g = begun("1:" + many(300, "x0;"), 0, 0);
        CHECK.same("just all", g.run(300), 300);
        RootHouse f = begun("1:" + many(300, "x0;"), 0, 0);
        CHECK.same("one less", f.run(299), 299);
        RootHouse e = begun("1:" + many(300, "x0;"), 0, 0);
        CHECK.same("no more than there are", e.run(301), 300);
    }

    /** "IllegalStateException (asked behind that): no RUN, or all are done" */
    private static void noneOrAllDone() {
        for (int n : new int[] {0, 1, 400, 401}) {
            String due = n >= 1 && n <= 400 ? "IllegalStateException" : "IllegalArgumentException";
            RootHouse none = new RootHouse();
            CHECK.same("no RUN", Check.said(() -> none.run(n)), due);
            RootHouse empty = begun("1:", 0, 0);
            CHECK.same("no OPS", Check.said(() -> empty.run(n)), due);
            RootHouse done = run("1:x0;", 0, 0);
            CHECK.same("all are done", Check.said(() -> done.run(n)), due);
            CHECK.same("done", done.state(1), 1);
            RootHouse cleared = begun("1:x0;", 0, 0);
            cleared.clear();
            CHECK.same("no RUN", Check.said(() -> cleared.run(n)), due);
        }
    }

    /** "those that are passed over by their BITS too" */
    private static void passedOver() {
        RootHouse h = begun("1:?0[x0;x0;x0;]!0[m03;]!3[?2[m00;]x0;]m01;?1[!0[x0;]]?1[!1[x0;]]", 0, 0);
        CHECK.same("three, all passed over", h.run(3), 3);
        CHECK.same("as it was", h.amplitude(0, 0), 1);
        CHECK.same("m, one passed over, x", h.run(3), 3);
        CHECK.same("x was done", h.amplitude(1, 0), 1);
        CHECK.same("m, x, and one that never can be", h.run(400), 3);
        CHECK.row("state", h::state, 1, 9, 0, 0, 1, 0, 0, 1);
        CHECK.same("x was done once", h.amplitude(0, 0), 1);
    }

    /** "what is in it is done only if the BIT is 1 (0): each OP, when its turn comes" */
    private static void eachWhenItsTurnComes() {
        RootHouse h = begun("1:x0;m00;?0[x0;m00;x0;m01;]", 0, 0);
        CHECK.same("all of them", h.run(400), 6);
        CHECK.row("BIT 0 is 0 behind the second m", h::state, 1, 6, 0, 0, 0);
        CHECK.same("the last x is passed over", h.amplitude(0, 0), 1);
        RootHouse g = begun("1:!0[x0;m00;x0;m01;]!1[x0;m01;x0;]", 0, 0);
        CHECK.same("all of them", g.run(400), 7);
        CHECK.row("BIT 0 is 1 behind the first m", g::state, 1, 7, 0, 1, 0);
        CHECK.same("only the first and the last two x are done", g.amplitude(1, 0), 1);
    }

    /** "no RUN, a TABLE of one WIRE" */
    private static void aNewObject() {
        RootHouse h = new RootHouse();
        CHECK.same("one WIRE", h.total(2), 1);
        CHECK.only("ROW", i -> h.row(i, 1), 0, 0);
        CHECK.only("WIRE", wire -> h.measure(wire, 1), 0, 0);
        CHECK.only("WIRE", wire -> Check.yesOrNone(h.gate(3, wire, 0)), 0, 0);
        CHECK.no("no second one", h.gate(5, 0, 1));
        CHECK.same("no RUN", h.state(0), -1);
    }

    /** state: "NONE without a RUN, or for another what" */
    private static void states() {
        RootHouse h = run("8:h0;h7;m00;m73;", 0, 3);
        CHECK.row("state", h::state, -2, -1, -1, 0, 4, 2, 1, 0, 0, 1, 1, -1, -1);
        CHECK.same("another what", h.state(Integer.MIN_VALUE), -1);
        CHECK.same("another what", h.state(Integer.MAX_VALUE), -1);
        RootHouse g = run("8:h0;h1;h2;h3;h4;h5;h6;h7;", 255, 0);
        CHECK.same("all STARTS", g.state(7), 256);
        RootHouse f = run("8:h0;h0;", 255, 0);
        CHECK.same("one START", f.state(7), 1);
        for (int e = 0; e < 8; e++) {
            RootHouse d = run("1:h0;t0;h0;x0;" + "t0;".repeat(e), 0, 0);
            CHECK.same("two STARTS, one of them (1 + w) * w^" + e, d.state(7), 2);
            RootHouse c = run("1:h0;t0;h0;x0;" + "t0;".repeat(e) + "m00;", 0, 1);
            CHECK.row("it can be measured", c::state, 2, 1, 1);
        }
    }

    /** "BITS (0 at first)" */
    private static void bitsAtFirst() {
        for (int bit = 0; bit < 4; bit++) {
            RootHouse h = run("1:?" + bit + "[x0;]", 0, -1);
            CHECK.same("BIT " + bit + " is 0", h.amplitude(0, 0), 1);
            RootHouse g = run("1:!" + bit + "[x0;]", 0, -1);
            CHECK.same("BIT " + bit + " is 0", g.amplitude(1, 0), 1);
            RootHouse f = run("1:x0;m0" + bit + ";x0;m0" + bit + ";", 0, -1);
            CHECK.same("0 again", f.state(3 + bit), 0);
            RootHouse e = run("1:x0;m0" + bit + ";", 0, 0);
            for (int other = 0; other < 4; other++) {
                CHECK.same("this BIT alone", e.state(3 + other), other == bit ? 1 : 0);
            }
        }
    }

    /** "have both a WEIGHT above 0 ..., else it is the only one that can be" */
    private static void onlyOutcome() {
        RootHouse h = run("2:h0;0>x1;m00;m11;m12;", 0, 1);
        CHECK.row("one tape bit", h::state, 2, 1, 1, 1, 1, 0, 1);
        RootHouse g = run("1:h0;t0;h0;m00;m01;", 0, 0);
        CHECK.row("WEIGHTS that differ are above 0 both", g::state, 2, 1, 0, 0);
        for (int e = 0; e < 8; e++) {
            RootHouse d = run("1:h0;" + "t0;".repeat(e) + "m00;", 0, 0);
            CHECK.row("all of the other ROOT is 0", part -> d.amplitude(1, part), 0, 0, 0, 0, 0, 0);
            CHECK.same("one START", d.state(7), 1);
            RootHouse c = run("2:h0;" + "t0;".repeat(e) + "0>x1;r1;", 0, 0);
            CHECK.same("one START", c.state(7), 1);
        }
        RootHouse f = run("1:h0;z0;h0;m00;", 0, 0);
        CHECK.row("a WEIGHT that came to 0", f::state, 2, 0, 1);
        CHECK.row("k comes down", part -> f.amplitude(1, part), 0, 1, 0, 0, 0, 0);
    }

    /** "with 64 tape bits (the lowest first)" */
    private static void tapeFromTheLowest() {
        for (int bits = 0; bits < 16; bits++) {
            RootHouse h = run("4:h0;h1;h2;h3;m00;m11;m22;m33;", 0, bits);
            CHECK.row("BITS", h::state, 2, 4, bits & 1, bits >> 1 & 1, bits >> 2 & 1, bits >> 3, 1);
            CHECK.same("the only START", h.amplitude(bits, 4), 4);
        }
    }

    /**
     * "the next tape bit is taken (0 behind the 64th; it is counted all the same)".
     * Of 128 STARTS each m takes one away, if its outcome is 0: so 7 of kind 3 are enough for as many tape bits.
     */
    private static void tapeOf64() {
        for (int odd = 0; odd < 2; odd++) {
            RootHouse h = new RootHouse();
            Check.circuit(h, "8:h7;m73;?3[x7;]h0;h1;h2;h3;h4;h5;h6;" + isolated(0, 10));
            for (int from = 10; from < 70; from += 10) {
                h.derive(1, h.total(0) - 1, Check.circuit(h, "8:" + isolated(from, from + 10)));
            }
            h.begin(h.total(0) - 1, 0, odd);
            h.run(400);
            CHECK.same("counted all the same", h.state(2), 71);
            CHECK.same("the first one", h.state(6), odd);
            CHECK.same("all others were 0", h.state(7), 128 - 70);
            CHECK.same("the last one, too", h.state(3), 0);
        }
        for (int last = 0; last < 2; last++) {
            RootHouse h = new RootHouse();
            Check.circuit(h, "8:h0;h1;h2;h3;h4;h5;h6;" + isolated(0, 10));
            for (int from = 10; from < 70; from += 10) {
                h.derive(1, h.total(0) - 1, Check.circuit(h, "8:" + isolated(from, from + 10)));
            }
            h.begin(h.total(0) - 1, 0, last == 0 ? 1L << 62 : Long.MIN_VALUE);
            int per = h.look(h.total(0) - 1, 1);
            h.run(per);
            CHECK.same("taken up to the one that is 1", h.state(2), last == 0 ? 63 : 64);
            CHECK.same("one START is left", h.state(7), 1);
        }
    }

    /** Turns WIRE 7 for one START of the others, another one each time, and measures it. */
    private static String isolated(int from, int to) {
        StringBuilder text = new StringBuilder();
        for (int i = from; i < to; i++) {
            text.append("0>1>2>3>4>5>6>x7;m70;x").append(Integer.numberOfTrailingZeros(i + 1)).append(";");
        }
        return text.toString();
    }

    /** "r: likewise, without a BIT; then, if it is 1, x" */
    private static void resetTakesTape() {
        for (int bit : new int[] {0, 1}) {
            RootHouse h = run("2:h0;0>x1;r0;", 0, bit);
            CHECK.row("a tape bit, no BIT", h::state, 2, 1, 0, 0, 0, 0, 1);
            CHECK.row("the other WIRE", part -> h.amplitude(2 * bit, part), 0, 1, 0, 0, 0, 1);
        }
        for (int wire = 0; wire < 8; wire++) {
            for (int start : new int[] {0, 255, 1 << wire, 255 - (1 << wire)}) {
                RootHouse f = run("8:r" + wire + ";", start, -1);
                CHECK.same("WIRE " + wire + " of " + start, f.amplitude(start & ~(1 << wire), 0), 1);
                CHECK.same("one START", f.state(7), 1);
            }
        }
        RootHouse g = run("1:x0;r0;r0;", 0, -1);
        CHECK.row("no tape bit", g::state, 2, 0, 0, 0, 0, 0, 1);
        CHECK.same("made 0", g.amplitude(0, 0), 1);
    }

    /** amplitude: "no such START or part" */
    private static void roots() {
        for (int n : UP_TO_8) {
            RootHouse h = begun(n + ":", 0, 0);
            CHECK.only("START of " + n, i -> h.amplitude(i, 0), 0, (1 << n) - 1);
            CHECK.only("part", part -> h.amplitude(0, part), 0, 4);
        }
        RootHouse g = run("1:h0;", 0, 0);
        CHECK.row("part", part -> Check.said(() -> g.amplitude(1, part)).equals(NONE_SUCH) ? -9 : g.amplitude(1, part), -1,
            -9, 1, 0, 0, 0, 1, -9);
    }

    /** weight: "a WIRE that there is not, a value outside of the set, no such part" */
    private static void weights() {
        for (int n : UP_TO_8) {
            RootHouse h = begun(n + ":", 0, 0);
            int all = (1 << n) - 1;
            CHECK.only("set", set -> h.weight(set, 0, 0), 0, all);
            CHECK.only("part", part -> h.weight(all, 0, part), 0, 2);
            CHECK.only("values", values -> h.weight(all, values, 0), 0, all);
            CHECK.row("all", part -> h.weight(0, 0, part), 0, 1, 0, 0);
            CHECK.row("all 0", part -> h.weight(all, 0, part), 0, 1, 0, 0);
            CHECK.row("all 1", part -> h.weight(all, all, part), 0, 0, 0, 0);
            CHECK.same("a value outside", Check.said(() -> h.weight(0, 1, 0)), NONE_SUCH);
            CHECK.same("a value outside", Check.said(() -> h.weight(all - 1, 1, 0)), NONE_SUCH);
            CHECK.same("a value outside", Check.said(() -> h.weight(all, all + 1, 0)), NONE_SUCH);
            CHECK.same("a value outside", Check.said(() -> h.weight(1, Integer.MIN_VALUE, 0)), NONE_SUCH);
            CHECK.same("no such WIRE", Check.said(() -> h.weight(Integer.MIN_VALUE, 0, 0)), NONE_SUCH);
        }
    }

    /** expected: "a WIRE that there is not, no such part" */
    private static void expectations() {
        for (int n : UP_TO_8) {
            RootHouse h = begun(n + ":", 0, 0);
            int all = (1 << n) - 1;
            CHECK.only("x's", xs -> h.expected(xs, 0, 0), 0, all);
            CHECK.only("z's", zs -> h.expected(0, zs, 0), 0, all);
            CHECK.only("part", part -> h.expected(0, 0, part), 0, 2);
            CHECK.row("z of all", part -> h.expected(0, all, part), 0, 1, 0, 0);
            CHECK.row("x of all", part -> h.expected(all, 0, part), 0, 0, 0, 0);
            CHECK.row("y of all", part -> h.expected(all, all, part), 0, 0, 0, 0);
        }
        RootHouse g = run("8:h7;s7;", 0, 0);
        CHECK.row("y of the last", part -> g.expected(128, 128, part), 0, 1, 0, 0);
        CHECK.row("-y of the last", part -> run("8:x7;h7;s7;", 0, 0).expected(128, 128, part), 0, -1, 0, 0);
    }

    /** mixed: "no such WIRE, row, column, part" */
    private static void mixtures() {
        for (int n : UP_TO_8) {
            RootHouse h = begun(n + ":", (1 << n) - 1, 0);
            CHECK.only("WIRE", wire -> h.mixed(wire, 0, 0, 0), 0, n - 1);
            CHECK.only("row", row -> h.mixed(n - 1, row, 0, 0), 0, 1);
            CHECK.only("column", column -> h.mixed(n - 1, 0, column, 0), 0, 1);
            CHECK.only("part", part -> h.mixed(0, 1, 1, part), 0, 4);
            CHECK.row("1 1", part -> h.mixed(n - 1, 1, 1, part), 0, 1, 0, 0, 0, 0);
            CHECK.row("0 0", part -> h.mixed(n - 1, 0, 0, part), 0, 0, 0, 0, 0, 0);
        }
    }

    /** nodes: "NODES at level l (0 .. N)"; "NONE without a RUN, or if there is no such level" */
    private static void levels() {
        for (int n : UP_TO_8) {
            RootHouse h = begun(n + ":", (1 << n) - 1, 0);
            CHECK.only("level of " + n, h::nodes, 0, n);
            for (int level = 0; level <= n; level++) {
                CHECK.same("one START", h.nodes(level), 1);
            }
        }
        for (int e = 0; e < 8; e++) {
            RootHouse f = run("2:h0;0>h1;" + "0>t1;".repeat(e), 0, 0);
            CHECK.row("by " + e + " eighths", f::nodes, 0, 1, 2, 1);
            RootHouse d = run("2:h0;h1;" + "0>t1;".repeat(e), 0, 0);
            CHECK.row("by " + e + " eighths", d::nodes, 0, 1, e == 0 ? 1 : 2, 1);
            RootHouse a = run("2:h0;x0;0>h1;0>t1;0>h1;0>x1;x0;" + "t1;".repeat(e), 0, 0);
            CHECK.row("by (1 + w) * w^" + e, a::nodes, 0, 1, 2, 1);
            // Of the four STARTS of WIRES 0 and 1 the last one is taken away by m.
            RootHouse b = run("3:h0;h1;0>1>x2;m20;" + "t1;".repeat(e), 0, 0);
            CHECK.row("three STARTS, by " + e + " eighths", b::nodes, 0, 1, 2, 1, 1);
            RootHouse c = run("2:h0;h1;" + "t0;".repeat(e), 0, 0);
            CHECK.row("by a factor alone", c::nodes, 0, 1, 1, 1);
        }
        RootHouse g = run("8:h0;h1;h2;h3;0>x4;1>x5;2>x6;3>x7;", 0, 0);
        CHECK.row("the most that there can be", g::nodes, -1, -1, 1, 2, 4, 8, 16, 8, 4, 2, 1, -1);
    }

    /** group: "i NONE: how many (whatever what is). NONE ... if there is no such ROW or what" */
    private static void groupRows() {
        for (int n : UP_TO_8) {
            RootHouse h = begun(n + ":x0;", (1 << n) - 1, 0);
            for (int what : new int[] {Integer.MIN_VALUE, -1, 0, 2, 3, Integer.MAX_VALUE}) {
                CHECK.same("how many", h.group(-1, what), n);
                boolean is = what == 0 || what == 2;
                CHECK.same("what " + what, h.group(0, what), is ? what / 2 : -1);
            }
            for (int i : new int[] {Integer.MIN_VALUE, -3, -2, n, n + 1, Integer.MAX_VALUE}) {
                CHECK.row("no ROW " + i, what -> h.group(i, what), -1, -1, -1, -1, -1, -1);
            }
            CHECK.row("the last ROW", what -> h.group(n - 1, what), -1, -1, 0, 1 << n - 1, 1, -1);
        }
        RootHouse g = run("1:h0;t0;", 0, 0);
        CHECK.same("none", g.group(-1, 0), 0);
        CHECK.row("no ROW", what -> g.group(0, what), 0, -1, -1, -1);
        RootHouse e = run("3:h0;h1;0>x2;1>x2;", 0, 0);
        CHECK.row("the others have 0 there: x's", i -> e.group(i, 0), 0, 5, 6, 0);
        CHECK.row("the others have 0 there: z's", i -> e.group(i, 1), 0, 0, 0, 7);
        RootHouse d = run("4:h0;h1;h2;0>x3;1>x3;2>x3;", 0, 0);
        CHECK.row("the others have 0 there: x's", i -> d.group(i, 0), -1, 4, 9, 10, 12, 0, -1);
        RootHouse f = run("8:h0;t0;h7;s7;", 0, 0);
        CHECK.same("seven", f.group(-1, 5), 7);
        CHECK.row("y of the last one", what -> f.group(0, what), 0, 128, 128, 0);
        CHECK.row("z of another", what -> f.group(6, what), 0, 0, 64, 0);
        CHECK.row("no more", what -> f.group(7, what), 0, -1, -1, -1);
    }

    /** "and the least k that there may be, 0 or more (of 0 all are 0)" */
    private static void leastPowers() {
        RootHouse h = run("1:" + many(60, "h0;"), 1, 0);
        CHECK.row("60 of kind 3 are none", part -> h.amplitude(1, part), 0, 1, 0, 0, 0, 0);
        CHECK.row("0", part -> h.amplitude(0, part), 0, 0, 0, 0, 0, 0);
        RootHouse g = run("1:" + many(59, "h0;"), 1, 0);
        CHECK.row("59 are one", part -> g.amplitude(1, part), 0, -1, 0, 0, 0, 1);
        CHECK.row("WEIGHT", part -> g.weight(1, 1, part), 0, 1, 0, 1);
        RootHouse f = run("8:h0;h1;h2;h3;h4;h5;h6;h7;", 0, 0);
        CHECK.row("over 16", part -> f.amplitude(255, part), 0, 1, 0, 0, 0, 8);
        CHECK.row("WEIGHT of one", part -> f.weight(255, 255, part), 0, 1, 0, 8);
        CHECK.row("WEIGHT of all", part -> f.weight(0, 0, part), 0, 1, 0, 0);
        RootHouse e = run("1:" + many(30, "h0;t0;h0;-t0;"), 0, 0);
        long u = e.weight(1, 0, 0) << 60 - e.weight(1, 0, 2);
        long v = e.weight(1, 0, 1) << 60 - e.weight(1, 0, 2);
        long u1 = e.weight(1, 1, 0) << 60 - e.weight(1, 1, 2);
        long v1 = e.weight(1, 1, 1) << 60 - e.weight(1, 1, 2);
        CHECK.same("both WEIGHTS are 1", u + u1, 1L << 60);
        CHECK.same("both WEIGHTS are 1", v + v1, 0);
        CHECK.row("the whole WEIGHT", part -> e.weight(0, 0, part), 0, 1, 0, 0);
        CHECK.yes("its k is great", e.amplitude(0, 4) > 30);
    }

    /** "no RUN" */
    private static void withoutARun() {
        RootHouse h = new RootHouse();
        Check.circuit(h, "1:");
        CHECK.row("state", h::state, -1, -1, -1, -1, -1, -1, -1, -1, -1, -1, -1);
        CHECK.row("nodes", h::nodes, -1, -1, -1, -1);
        CHECK.row("group", i -> h.group(i, 0), -2, -1, -1, -1, -1);
        CHECK.same("amplitude", Check.said(() -> h.amplitude(0, 0)), NONE_SUCH);
        CHECK.same("weight", Check.said(() -> h.weight(0, 0, 0)), NONE_SUCH);
        CHECK.same("expected", Check.said(() -> h.expected(0, 0, 0)), NONE_SUCH);
        CHECK.same("mixed", Check.said(() -> h.mixed(0, 0, 0, 0)), NONE_SUCH);
    }

    /** table: "false for another n than 1 .. 20" */
    private static void tablesOf1To20() {
        RootHouse h = new RootHouse();
        CHECK.only("n", n -> Check.yesOrNone(h.table(n)), 1, 20);
        for (int n = 1; n <= 20; n++) {
            RootHouse g = new RootHouse();
            CHECK.yes("n", g.table(n));
            CHECK.same("WIRES", g.total(2), n);
            for (int i = 0; i < n; i++) {
                CHECK.same("x's", g.row(i, 0), 0);
                CHECK.same("z of each", g.row(i, 1), 1 << i);
                CHECK.same("sign 0", g.row(i, 2), 0);
            }
        }
        RootHouse g = new RootHouse();
        g.table(3);
        g.gate(0, 2, 0);
        for (int n : new int[] {0, 21, -1, Integer.MIN_VALUE, Integer.MAX_VALUE}) {
            CHECK.no("another n", g.table(n));
            CHECK.same("as it was", g.total(2), 3);
            CHECK.same("as it was", g.row(2, 2), 1);
        }
        CHECK.yes("a new one", g.table(3));
        CHECK.same("anew", g.row(2, 2), 0);
    }

    /** gate: "false if there is no such gate or WIRE, or a is b. (Of 0 to 4 b counts for nothing.)" */
    private static void gatesOfTheTable() {
        for (int n : new int[] {1, 2, 20}) {
            RootHouse h = new RootHouse();
            h.table(n);
            CHECK.only("gate", gate -> Check.yesOrNone(h.gate(gate, 0, n - 1)), 0, n == 1 ? 4 : 7);
            for (int gate = 0; gate <= 4; gate++) {
                int which = gate;
                CHECK.only("WIRE of " + gate, a -> Check.yesOrNone(h.gate(which, a, 0)), 0, n - 1);
                for (int b : new int[] {Integer.MIN_VALUE, -1, 0, n, Integer.MAX_VALUE}) {
                    CHECK.yes("b counts for nothing", h.gate(gate, 0, b));
                }
            }
            for (int gate = 5; gate <= 7; gate++) {
                int which = gate;
                RootHouse g = new RootHouse();
                g.table(n);
                if (n > 1) {
                    CHECK.only("CONTROL of " + gate, a -> Check.yesOrNone(g.gate(which, a, n)), 1, 0);
                    CHECK.only("WIRE of " + gate, b -> Check.yesOrNone(g.gate(which, 0, b)), 1, n - 1);
                    CHECK.only("CONTROL of " + gate, a -> Check.yesOrNone(g.gate(which, a, n - 1)), 0, n - 2);
                }
                for (int a = 0; a < n; a++) {
                    CHECK.no("a is b", g.gate(gate, a, a));
                }
            }
        }
        RootHouse h = new RootHouse();
        h.table(2);
        h.gate(3, 0, 0);
        h.gate(5, 0, 1);
        for (int[] call : new int[][] {{8, 0, 1}, {-1, 0, 1}, {0, 2, 0}, {3, -1, 0}, {5, 1, 1}, {6, 0, 2}, {7, 2, 0}, {5, -1, 0}}) {
            CHECK.no("refused", h.gate(call[0], call[1], call[2]));
            CHECK.row("as it was", what -> h.row(0, what), 0, 3, 0, 0);
            CHECK.row("as it was", what -> h.row(1, what), 0, 0, 3, 0);
        }
    }

    /** measure: "with this bit (its lowest one) if both can be (else it counts for nothing)"; "NONE if there is no such WIRE" */
    private static void measuredOfTheTable() {
        for (int bit : new int[] {Integer.MIN_VALUE, -2, -1, 0, 1, 2, 3, 1000, Integer.MAX_VALUE}) {
            RootHouse h = new RootHouse();
            h.table(2);
            h.gate(0, 1, 0);
            h.gate(3, 0, 0);
            CHECK.same("only 1 can be", h.measure(1, bit), 1);
            CHECK.same("the lowest of " + bit, h.measure(0, bit), 2 + (bit & 1));
            CHECK.same("only that can be", h.measure(0, ~bit), bit & 1);
            CHECK.row("z of it", what -> h.row(0, what), 0, 0, 1, bit & 1);
        }
        for (int n : new int[] {1, 2, 20}) {
            RootHouse h = new RootHouse();
            h.table(n);
            CHECK.only("WIRE", wire -> h.measure(wire, 1), 0, n - 1);
        }
        RootHouse h = new RootHouse();
        h.table(20);
        for (int i = 0; i < 20; i++) {
            h.gate(3, i, 0);
        }
        h.measure(20, 1);
        h.measure(-1, 1);
        for (int i = 0; i < 20; i++) {
            CHECK.same("refused ones measure nothing", h.row(i, 0), 1 << i);
        }
        CHECK.same("the last WIRE", h.measure(19, 1), 3);
    }

    /** row: "NONE if there is none such, or for another what" */
    private static void rowsOfTheTable() {
        for (int n : new int[] {1, 2, 19, 20}) {
            RootHouse h = new RootHouse();
            h.table(n);
            CHECK.only("ROW", i -> h.row(i, 1), 0, n - 1);
            CHECK.only("what", what -> h.row(n - 1, what), 0, 2);
        }
        RootHouse h = new RootHouse();
        h.table(20);
        h.table(2);
        CHECK.row("of a lesser one", i -> h.row(i, 1), -1, -1, 1, 2, -1);
    }

    /** faulty: "ahead of OP i of a circuit (i up to how many there are: behind all)" */
    private static void faultyPlaces() {
        RootHouse h = new RootHouse();
        Check.circuit(h, "1:h0;h0;h0;");
        Check.circuit(h, "1:");
        CHECK.only("i", i -> h.faulty(0, i, 1, 0, 0), 0, 3);
        CHECK.row("x's", i -> h.faulty(0, i, 1, 0, 0), 0, 0, 1, 0, 1);
        CHECK.only("i without OPS", i -> h.faulty(1, i, 1, 0, 0) == -1 ? -1 : 1, 0, 0);
        CHECK.only("circuit", c -> h.faulty(c, 0, 1, 0, 0), 0, 1);
        CHECK.only("what", what -> h.faulty(0, 0, 1, 1, what), 0, 2);
        CHECK.same("nothing there", new RootHouse().faulty(0, 0, 0, 0, 0), -1);
        RootHouse g = new RootHouse();
        Check.circuit(g, "1:" + many(300, "s0;"));
        CHECK.row("300 OPS", i -> g.faulty(0, i, 1, 0, 1), 299, 1, 0, -1);
    }

    /** "NONE if there is no such ... PAULI" */
    private static void faultyPaulis() {
        for (int n : UP_TO_8) {
            RootHouse h = new RootHouse();
            Check.circuit(h, n + ":");
            int all = (1 << n) - 1;
            CHECK.only("x's", xs -> h.faulty(0, 0, xs, 0, 0), 0, all);
            CHECK.only("z's", zs -> h.faulty(0, 0, 0, zs, 1), 0, all);
            CHECK.same("x's", h.faulty(0, 0, all, 0, 0), all);
            CHECK.same("z's", h.faulty(0, 0, 0, all, 1), all);
            CHECK.same("none is one, too", h.faulty(0, 0, 0, 0, 0), 0);
            CHECK.row("both", what -> h.faulty(0, 0, all, all, what), 0, all, all, 0);
            for (int set : new int[] {all + 1, all + 2, -1, Integer.MIN_VALUE, 256}) {
                CHECK.same("no such PAULI", h.faulty(0, 0, set, set, 0), -1);
            }
        }
    }

    /** "or it has OPS that can't be (anywhere)": "OPS as for SHORTEST, of any N, m and r too, without BITS" */
    private static void faultyOps() {
        for (String op : new String[] {"x0;", "y0;", "z0;", "h0;", "s0;", "-s0;", "w01;", "1>x0;", "7>y0;", "1>z0;", "m03;", "r7;"}) {
            RootHouse h = new RootHouse();
            Check.circuit(h, "8:" + op + "x5;");
            for (int i = 0; i <= 2; i++) {
                CHECK.same(op, h.faulty(0, i, 64, 0, 0), 64);
            }
        }
        for (String op : new String[] {"t0;", "-t0;", "1>h0;", "1>s0;", "1>-s0;", "1>t0;", "1>2>x0;", "1>2>z0;", "2>w01;", "?0[x0;]",
            "!3[x0;]", "?0[m00;]", "!0[r0;]"}) {
            RootHouse h = new RootHouse();
            Check.circuit(h, "8:x5;" + op + "x5;");
            for (int i = 0; i <= 3; i++) {
                CHECK.same(op, h.faulty(0, i, 64, 0, 0), -1);
            }
        }
        RootHouse h = new RootHouse();
        Check.circuit(h, "1:m00;x0;m01;m02;m03;h0;m01;");
        CHECK.row("BITS", i -> h.faulty(0, i, 1, 0, 2), 0, 13, 12, 12, 12, 8, 0, 2, 0);
        RootHouse g = new RootHouse();
        Check.circuit(g, "2:m10;m00;m00;m00;");
        CHECK.row("another one is another one, however often", i -> g.faulty(0, i, 1, 0, 2), 0, 1, 1, 1, 1, 0);
        CHECK.row("the latest m tells", i -> g.faulty(0, i, 2, 0, 2), 0, 0, 0, 0, 0, 0);
        Check.circuit(h, "1:r0;m00;");
        CHECK.row("r takes both", what -> h.faulty(1, 0, 1, 1, what), 0, 0, 0, 0);
        CHECK.row("m takes z", what -> h.faulty(1, 1, 1, 1, what), 0, 1, 0, 1);
    }
}

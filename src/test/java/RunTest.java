import java.util.NoSuchElementException;
import java.util.Random;

/** Promises 10 to 22 and 40: RUNS and what their STATES tell, the TABLE, FAULTY PAULIS. */
public final class RunTest {
    private static final Check CHECK = new Check("runs and tables");

    public static void main(String[] args) {
        begins();
        steps();
        measures();
        amplitudes();
        weights();
        expectations();
        mixtures();
        nodes();
        groups();
        tables();
        tableAgainstGroup();
        faulty();
        CHECK.end();
    }

    private static RootHouse run(String text, int start, long tape) {
        RootHouse h = new RootHouse();
        h.begin(Check.circuit(h, text), start, tape);
        if (h.look(0, 1) > 0) {
            h.run(400);
        }
        return h;
    }

    private static void root(RootHouse h, int start, long... due) {
        CHECK.row("amplitude of " + start + ", part", part -> h.amplitude(start, part), 0, due);
    }

    private static void begins() {
        RootHouse h = new RootHouse();
        CHECK.no("no circuit", h.begin(0, 0, 0));
        Check.circuit(h, "2:x0;x1;");
        CHECK.no("no such circuit", h.begin(1, 0, 0));
        CHECK.no("no such START", h.begin(0, 4, 0));
        CHECK.no("no such START", h.begin(0, -1, 0));
        CHECK.same("no RUN", h.state(0), -1);
        CHECK.yes("it begins", h.begin(0, 3, 0));
        CHECK.row("state", h::state, -1, -1, 0, 0, 0, 0, 0, 0, 0, 1, -1);
        h.run(1);
        CHECK.no("no such START", h.begin(0, 4, 0));
        CHECK.same("the RUN stays", h.state(1), 1);
        CHECK.yes("it begins again", h.begin(0, 0, 0));
        CHECK.same("nothing is done", h.state(1), 0);
    }

    private static void steps() {
        RootHouse h = new RootHouse();
        CHECK.fails("n is looked at first", IllegalArgumentException.class, () -> h.run(0));
        CHECK.fails("n above 400", IllegalArgumentException.class, () -> h.run(401));
        CHECK.fails("no RUN", IllegalStateException.class, () -> h.run(1));
        Check.circuit(h, "1:x0;?0[x0;]x0;x0;x0;");
        h.begin(0, 0, 0);
        CHECK.same("two, one passed over", h.run(2), 2);
        root(h, 1, 1, 0, 0, 0, 0);
        CHECK.same("those that are left", h.run(400), 3);
        CHECK.same("all", h.state(1), 5);
        CHECK.fails("all are done", IllegalStateException.class, () -> h.run(1));
        CHECK.fails("n is looked at first", IllegalArgumentException.class, () -> h.run(-1));
        Check.circuit(h, "1:");
        h.begin(1, 0, 0);
        CHECK.fails("nothing to do", IllegalStateException.class, () -> h.run(1));
    }

    private static void measures() {
        RootHouse h = run("3:h0;m03;h1;m10;m11;r2;?3[x2;]!3[m02;]", 4, 1);
        CHECK.row("state", h::state, 0, 0, 8, 2, 0, 0, 0, 1, 1);
        root(h, 5, 1, 0, 0, 0, 2);
        RootHouse g = run("2:h0;0>x1;m00;r1;", 0, 1);
        CHECK.row("state", g::state, 1, 4, 1, 1, 0, 0, 0, 1);
        root(g, 1, 1, 0, 0, 0, 1);
        RootHouse f = run("1:h0;r0;h0;m02;", 0, 2);
        CHECK.row("state", f::state, 2, 2, 0, 0, 1, 0);
        RootHouse e = run("1:x0;m00;m01;x0;m00;", 0, 0);
        CHECK.row("only one can be", e::state, 2, 0, 0, 1);
        RootHouse d = run("1:x0;r0;", 0, -1);
        root(d, 0, 1, 0, 0, 0, 0);
    }

    private static void amplitudes() {
        RootHouse h = run("2:h0;t0;0>y1;1>-s0;", 0, 0);
        root(h, 0, 1, 0, 0, 0, 1);
        root(h, 3, 0, 1, 0, 0, 1);
        root(h, 1, 0, 0, 0, 0, 0);
        RootHouse g = run("1:h0;t0;h0;", 0, 0);
        root(g, 0, 1, 1, 0, 0, 2);
        root(g, 1, 1, -1, 0, 0, 2);
        RootHouse f = run("1:h0;h0;", 1, 0);
        root(f, 1, 1, 0, 0, 0, 0);
        RootHouse e = run("2:0>h1;x0;0>h1;", 2, 0);
        root(e, 1, 1, 0, 0, 0, 1);
        root(e, 3, -1, 0, 0, 0, 1);
        RootHouse d = run("1:y0;", 0, 0);
        root(d, 1, 0, 0, 1, 0, 0);
        RootHouse c = run("1:y0;", 1, 0);
        root(c, 0, 0, 0, -1, 0, 0);
        CHECK.fails("no such START", NoSuchElementException.class, () -> h.amplitude(4, 0));
        CHECK.fails("no such START", NoSuchElementException.class, () -> h.amplitude(-1, 0));
        CHECK.fails("no such part", NoSuchElementException.class, () -> h.amplitude(0, 5));
        CHECK.fails("no such part", NoSuchElementException.class, () -> h.amplitude(0, -1));
        CHECK.fails("no RUN", NoSuchElementException.class, () -> new RootHouse().amplitude(0, 0));
    }

    private static void weights() {
        RootHouse h = run("2:h0;t0;h0;0>x1;", 0, 0);
        CHECK.row("all", part -> h.weight(0, 0, part), 0, 1, 0, 0);
        CHECK.row("WIRE 0 is 0", part -> h.weight(1, 0, part), 0, 2, 1, 2);
        CHECK.row("both are 1", part -> h.weight(3, 3, part), 0, 2, -1, 2);
        CHECK.row("none", part -> h.weight(3, 1, part), 0, 0, 0, 0);
        CHECK.fails("a value outside", NoSuchElementException.class, () -> h.weight(1, 2, 0));
        CHECK.fails("no such WIRE", NoSuchElementException.class, () -> h.weight(4, 0, 0));
        CHECK.fails("no such WIRE", NoSuchElementException.class, () -> h.weight(-1, 0, 0));
        CHECK.fails("no such part", NoSuchElementException.class, () -> h.weight(0, 0, 3));
        CHECK.fails("no such part", NoSuchElementException.class, () -> h.weight(0, 0, -1));
        CHECK.fails("no RUN", NoSuchElementException.class, () -> new RootHouse().weight(0, 0, 0));
        RootHouse g = run("2:h0;m00;", 0, 0);
        CHECK.row("nothing is divided", part -> g.weight(0, 0, part), 0, 1, 0, 1);
    }

    private static void expectations() {
        RootHouse h = run("1:h0;t0;", 0, 0);
        CHECK.row("x", part -> h.expected(1, 0, part), 0, 0, 1, 1);
        CHECK.row("y", part -> h.expected(1, 1, part), 0, 0, 1, 1);
        CHECK.row("z", part -> h.expected(0, 1, part), 0, 0, 0, 0);
        RootHouse g = run("2:h0;0>x1;", 0, 0);
        CHECK.row("xx", part -> g.expected(3, 0, part), 0, 1, 0, 0);
        CHECK.row("yy", part -> g.expected(3, 3, part), 0, -1, 0, 0);
        CHECK.row("zz", part -> g.expected(0, 3, part), 0, 1, 0, 0);
        CHECK.row("nothing", part -> g.expected(0, 0, part), 0, 1, 0, 0);
        CHECK.fails("no such WIRE", NoSuchElementException.class, () -> g.expected(4, 0, 0));
        CHECK.fails("no such WIRE", NoSuchElementException.class, () -> g.expected(0, -4, 0));
        CHECK.fails("no such part", NoSuchElementException.class, () -> g.expected(0, 0, 3));
        CHECK.fails("no RUN", NoSuchElementException.class, () -> new RootHouse().expected(0, 0, 0));
    }

    private static void mixtures() {
        RootHouse h = run("1:h0;t0;", 0, 0);
        CHECK.row("0 0", part -> h.mixed(0, 0, 0, part), 0, 1, 0, 0, 0, 2);
        CHECK.row("1 0", part -> h.mixed(0, 1, 0, part), 0, 0, 1, 0, 0, 2);
        CHECK.row("0 1", part -> h.mixed(0, 0, 1, part), 0, 0, 0, 0, -1, 2);
        RootHouse g = run("2:h0;0>x1;", 0, 0);
        CHECK.row("half", part -> g.mixed(1, 1, 1, part), 0, 1, 0, 0, 0, 2);
        CHECK.row("nothing", part -> g.mixed(1, 1, 0, part), 0, 0, 0, 0, 0, 0);
        CHECK.fails("no such WIRE", NoSuchElementException.class, () -> g.mixed(2, 0, 0, 0));
        CHECK.fails("no such WIRE", NoSuchElementException.class, () -> g.mixed(-1, 0, 0, 0));
        CHECK.fails("no such row", NoSuchElementException.class, () -> g.mixed(0, 2, 0, 0));
        CHECK.fails("no such column", NoSuchElementException.class, () -> g.mixed(0, 0, -1, 0));
        CHECK.fails("no such part", NoSuchElementException.class, () -> g.mixed(0, 0, 0, 5));
        CHECK.fails("no RUN", NoSuchElementException.class, () -> new RootHouse().mixed(0, 0, 0, 0));
    }

    private static void nodes() {
        RootHouse h = run("4:h0;h1;0>x2;1>x3;", 0, 0);
        CHECK.row("nodes", h::nodes, -1, -1, 1, 2, 4, 2, 1, -1);
        RootHouse g = run("3:h0;h1;h2;t0;s1;", 0, 0);
        CHECK.row("all alike", g::nodes, 0, 1, 1, 1, 1);
        RootHouse f = run("3:h0;h1;0>1>x2;", 0, 0);
        CHECK.row("nodes", f::nodes, 0, 1, 2, 2, 1);
        RootHouse e = run("2:h0;h1;0>t1;", 0, 0);
        CHECK.row("by a phase", e::nodes, 0, 1, 2, 1);
    }

    private static void groups() {
        RootHouse h = run("3:h0;0>x1;x2;", 0, 0);
        CHECK.same("rows", h.group(-1, 9), 3);
        CHECK.row("row 0", w -> h.group(0, w), -1, -1, 3, 0, 0, -1);
        CHECK.row("row 1", w -> h.group(1, w), 0, 0, 3, 0);
        CHECK.row("row 2", w -> h.group(2, w), 0, 0, 4, 1);
        CHECK.same("no such row", h.group(3, 0), -1);
        CHECK.same("no such row", h.group(-2, 0), -1);
        RootHouse g = run("1:h0;t0;", 0, 0);
        CHECK.same("none", g.group(-1, 0), 0);
        RootHouse f = run("1:h0;s0;", 1, 0);
        CHECK.row("-y", w -> f.group(0, w), 0, 1, 1, 1);
        RootHouse e = run("2:h0;t0;x1;", 0, 0);
        CHECK.same("one", e.group(-1, 0), 1);
        CHECK.row("-z of 1", w -> e.group(0, w), 0, 0, 2, 1);
        RootHouse d = new RootHouse();
        d.begin(Check.circuit(d, "1:h0;t0;"), 0, 0);
        CHECK.row("z", w -> d.group(0, w), 0, 0, 1, 0);
        d.run(1);
        CHECK.row("x", w -> d.group(0, w), 0, 1, 0, 0);
        d.run(1);
        CHECK.same("none", d.group(0, 0), -1);
    }

    private static void tables() {
        RootHouse h = new RootHouse();
        CHECK.no("no wires", h.table(0));
        CHECK.no("too many", h.table(21));
        CHECK.yes("twenty", h.table(20));
        CHECK.same("twenty", h.total(2), 20);
        CHECK.row("row 19", w -> h.row(19, w), -1, -1, 0, 1 << 19, 0, -1);
        CHECK.row("rows", i -> h.row(i, 1), 18, 1 << 18, 1 << 19, -1);
        CHECK.same("no such row", h.row(-1, 0), -1);
        CHECK.no("no such gate", h.gate(8, 0, 1));
        CHECK.no("no such gate", h.gate(-1, 0, 1));
        CHECK.no("no such WIRE", h.gate(0, 20, 0));
        CHECK.no("no such WIRE", h.gate(5, 0, 20));
        CHECK.no("no such WIRE", h.gate(6, -1, 0));
        CHECK.no("the same", h.gate(7, 3, 3));
        CHECK.yes("b counts for nothing", h.gate(0, 3, 99));
        CHECK.same("3 is 1", h.measure(3, 0), 1);
        CHECK.yes("h", h.gate(3, 0, 0));
        CHECK.yes("x with a CONTROL", h.gate(5, 0, 19));
        CHECK.row("row 0", w -> h.row(0, w), 0, 1 | 1 << 19, 0, 0);
        CHECK.same("both can be", h.measure(19, -1), 3);
        CHECK.same("only one can be", h.measure(0, 0), 1);
        CHECK.same("no such WIRE", h.measure(20, 0), -1);
        CHECK.same("no such WIRE", h.measure(-1, 0), -1);
        CHECK.yes("one wire", h.table(1));
        h.gate(3, 0, 0);
        h.gate(4, 0, 0);
        CHECK.row("y", w -> h.row(0, w), 0, 1, 1, 0);
        h.gate(4, 0, 0);
        CHECK.row("-x", w -> h.row(0, w), 0, 1, 0, 1);
        CHECK.same("an even bit", h.measure(0, 2), 2);
        h.gate(1, 0, 0);
        CHECK.row("-z", w -> h.row(0, w), 0, 0, 1, 1);
    }

    /** What the TABLE tells is THE GROUP of the STATE that the same gates make. */
    private static void tableAgainstGroup() {
        Random random = new Random(19);
        for (int round = 0; round < 60; round++) {
            RootHouse h = new RootHouse();
            int n = 1 + random.nextInt(8);
            h.table(n);
            StringBuilder text = new StringBuilder(n + ":");
            long tape = random.nextLong();
            int taken = 0;
            for (int i = 0; i < 30; i++) {
                int gate = random.nextInt(9);
                int a = random.nextInt(n);
                int b = random.nextInt(n);
                if (gate == 8) {
                    text.append("m").append(a).append("0;");
                    taken += h.measure(a, (int) (tape >>> taken)) >> 1;
                } else if (h.gate(gate, a, b)) {
                    text.append(gate < 5 ? "xyzhs".charAt(gate) + "" + a : gate == 7 ? "w" + a + b
                        : a + ">" + (gate == 5 ? "x" : "z") + b).append(";");
                }
            }
            h.begin(Check.circuit(h, text.toString()), 0, tape);
            if (h.look(0, 1) > 0) {
                h.run(400);
            }
            CHECK.same(text + " tape", h.state(2), taken);
            CHECK.same(text + " rows", h.group(-1, 0), n);
            for (int i = 0; i < 3 * n; i++) {
                CHECK.same(text + " row " + i / 3, h.group(i / 3, i % 3), h.row(i / 3, i % 3));
            }
        }
    }

    private static void faulty() {
        RootHouse h = new RootHouse();
        Check.circuit(h, "3:h0;0>x1;1>z2;m00;r1;m21;m20;");
        CHECK.row("x on 0 ahead", w -> h.faulty(0, 0, 1, 0, w), -1, -1, 0, 0, 0, -1);
        CHECK.row("z on 0 ahead", w -> h.faulty(0, 0, 0, 1, w), 0, 1, 0, 0);
        CHECK.row("x on 0 behind h", w -> h.faulty(0, 1, 1, 0, w), 0, 1, 0, 0);
        CHECK.row("x on 2", w -> h.faulty(0, 5, 4, 6, w), 0, 4, 2, 3);
        CHECK.row("behind all", w -> h.faulty(0, 7, 5, 3, w), 0, 5, 3, 0);
        CHECK.row("x on 0 ahead of m 0 0", w -> h.faulty(0, 3, 1, 1, w), 0, 1, 0, 0);
        CHECK.same("no such OP", h.faulty(0, 8, 0, 0, 0), -1);
        CHECK.same("no such OP", h.faulty(0, -1, 0, 0, 0), -1);
        CHECK.same("no such PAULI", h.faulty(0, 0, 8, 0, 0), -1);
        CHECK.same("no such PAULI", h.faulty(0, 0, 0, -1, 0), -1);
        CHECK.same("no such circuit", h.faulty(1, 0, 0, 0, 0), -1);
        Check.circuit(h, "1:t0;h0;");
        CHECK.same("a t ahead of it", h.faulty(1, 1, 1, 0, 0), -1);
        Check.circuit(h, "1:h0;?0[x0;]");
        CHECK.same("it asks for BITS", h.faulty(2, 0, 1, 0, 0), -1);
        Check.circuit(h, "2:0>y1;");
        CHECK.row("x of the CONTROL", w -> h.faulty(3, 0, 1, 0, w), 0, 3, 2, 0);
        CHECK.row("z of the WIRE", w -> h.faulty(3, 0, 0, 2, w), 0, 0, 3, 0);
        CHECK.row("y of the WIRE", w -> h.faulty(3, 0, 2, 2, w), 0, 2, 2, 0);
        Check.circuit(h, "2:0>s1;");
        CHECK.same("s with a CONTROL", h.faulty(4, 0, 1, 0, 0), -1);
    }
}

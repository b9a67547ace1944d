import java.util.NoSuchElementException;

/** Promises 46 to 50: DENSITIES, OPS DONE to them, SPOILT ones, their PURITY. */
public final class DensityTest {
    private static final Check CHECK = new Check("densities");

    public static void main(String[] args) {
        begins();
        gates();
        measured();
        spoilt();
        limits();
        asStates();
        CHECK.end();
    }

    private static void entry(RootHouse h, int i, int j, long... due) {
        CHECK.row("D(" + i + ", " + j + ")", part -> h.entry(i, j, part), 0, due);
    }

    private static RootHouse done(String text, int start) {
        RootHouse h = new RootHouse();
        int c = Check.circuit(h, text);
        h.density(h.look(c, 0), start);
        for (int i = 0; i < h.look(c, 1); i++) {
            CHECK.yes(text + " OP " + i, h.mix(c, i));
        }
        return h;
    }

    private static void begins() {
        RootHouse h = new RootHouse();
        CHECK.no("no WIRES", h.density(0, 0));
        CHECK.no("four WIRES", h.density(4, 0));
        CHECK.no("no such START", h.density(2, 4));
        CHECK.no("no such START", h.density(2, -1));
        CHECK.fails("none", NoSuchElementException.class, () -> h.entry(0, 0, 0));
        CHECK.fails("none", NoSuchElementException.class, () -> h.purity(0));
        Check.circuit(h, "1:x0;");
        CHECK.no("none", h.mix(0, 0));
        CHECK.no("none", h.spoil(0, 0, 1));
        CHECK.yes("three WIRES", h.density(3, 7));
        entry(h, 7, 7, 1, 0, 0, 0, 0);
        entry(h, 0, 7, 0, 0, 0, 0, 0);
        CHECK.fails("no such i", NoSuchElementException.class, () -> h.entry(8, 0, 0));
        CHECK.fails("no such j", NoSuchElementException.class, () -> h.entry(0, -1, 0));
        CHECK.fails("no such part", NoSuchElementException.class, () -> h.entry(0, 0, 5));
        CHECK.fails("no such part", NoSuchElementException.class, () -> h.purity(3));
        CHECK.fails("no such part", NoSuchElementException.class, () -> h.purity(-1));
        CHECK.no("not as many WIRES", h.mix(0, 0));
        h.density(1, 0);
        CHECK.no("no such OP", h.mix(0, 1));
        CHECK.no("no such OP", h.mix(0, -1));
        CHECK.no("no such circuit", h.mix(1, 0));
        Check.circuit(h, "1:?0[x0;]");
        CHECK.no("it asks for BITS", h.mix(1, 0));
        CHECK.yes("x", h.mix(0, 0));
        entry(h, 1, 1, 1, 0, 0, 0, 0);
    }

    private static void gates() {
        RootHouse h = done("1:h0;t0;", 0);
        entry(h, 0, 0, 1, 0, 0, 0, 2);
        entry(h, 1, 0, 0, 1, 0, 0, 2);
        entry(h, 0, 1, 0, 0, 0, -1, 2);
        RootHouse g = done("1:h0;y0;s0;", 0);
        entry(g, 1, 0, 0, 0, -1, 0, 2);
        RootHouse f = done("3:h0;0>h1;1>x2;w02;", 0);
        entry(f, 0, 0, 1, 0, 0, 0, 2);
        entry(f, 4, 4, 1, 0, 0, 0, 4);
        entry(f, 7, 7, 1, 0, 0, 0, 4);
        entry(f, 7, 0, 1, 0, 0, 0, 3);
        CHECK.row("PURITY", f::purity, 0, 1, 0, 0);
        RootHouse e = done("2:h0;0>y1;", 0);
        entry(e, 3, 0, 0, 0, 1, 0, 2);
        entry(e, 0, 3, 0, 0, -1, 0, 2);
    }

    private static void measured() {
        RootHouse h = done("2:h0;0>x1;m00;", 0);
        entry(h, 0, 0, 1, 0, 0, 0, 2);
        entry(h, 3, 3, 1, 0, 0, 0, 2);
        entry(h, 0, 3, 0, 0, 0, 0, 0);
        CHECK.row("PURITY", h::purity, 0, 1, 0, 1);
        RootHouse g = done("2:h0;0>x1;r0;", 0);
        entry(g, 0, 0, 1, 0, 0, 0, 2);
        entry(g, 2, 2, 1, 0, 0, 0, 2);
        entry(g, 3, 3, 0, 0, 0, 0, 0);
        entry(g, 0, 2, 0, 0, 0, 0, 0);
        RootHouse f = done("2:h0;h1;r0;", 0);
        entry(f, 2, 0, 1, 0, 0, 0, 2);
        entry(f, 1, 1, 0, 0, 0, 0, 0);
        CHECK.row("PURITY", f::purity, 0, 1, 0, 0);
    }

    private static void spoilt() {
        RootHouse h = done("1:h0;", 0);
        CHECK.yes("z, 4 sixteenths", h.spoil(0, 3, 4));
        entry(h, 0, 0, 1, 0, 0, 0, 2);
        entry(h, 0, 1, 1, 0, 0, 0, 4);
        CHECK.row("PURITY", h::purity, 0, 5, 0, 3);
        CHECK.yes("x does nothing to it", h.spoil(0, 1, 7));
        entry(h, 0, 1, 1, 0, 0, 0, 4);
        CHECK.yes("y, all of it", h.spoil(0, 2, 16));
        entry(h, 0, 1, -1, 0, 0, 0, 4);
        CHECK.yes("all, 16", h.spoil(0, 0, 16));
        entry(h, 0, 0, 1, 0, 0, 0, 2);
        entry(h, 0, 1, 0, 0, 0, 0, 0);
        RootHouse g = done("2:x0;", 0);
        CHECK.yes("x, 1 sixteenth", g.spoil(0, 1, 1));
        entry(g, 1, 1, 15, 0, 0, 0, 8);
        entry(g, 0, 0, 1, 0, 0, 0, 8);
        CHECK.yes("all, 1 sixteenth of the other WIRE", g.spoil(1, 0, 1));
        entry(g, 1, 1, 465, 0, 0, 0, 18);
        entry(g, 3, 3, 15, 0, 0, 0, 18);
        CHECK.no("no such WIRE", g.spoil(2, 0, 1));
        CHECK.no("no such WIRE", g.spoil(-1, 0, 1));
        CHECK.no("no such by", g.spoil(0, 4, 1));
        CHECK.no("no such by", g.spoil(0, -1, 1));
        CHECK.no("no such k", g.spoil(0, 0, 0));
        CHECK.no("no such k", g.spoil(0, 0, 17));
    }

    private static void limits() {
        RootHouse h = new RootHouse();
        Check.circuit(h, "1:h0;t0;");
        h.density(1, 0);
        for (int i = 0; i < 24; i++) {
            CHECK.yes("h", h.mix(0, 0));
            CHECK.yes("t", h.mix(0, 1));
        }
        CHECK.no("the 25th", h.mix(0, 0));
        CHECK.yes("another kind", h.mix(0, 1));
        for (int i = 0; i < 6; i++) {
            CHECK.yes("a SPOIL", h.spoil(0, 0, 3));
        }
        CHECK.no("the 7th", h.spoil(0, 1, 1));
        CHECK.yes("its k is above 50", h.entry(0, 0, 4) > 50);
        CHECK.fails("a k above 50", ArithmeticException.class, () -> h.purity(0));
        CHECK.fails("the part is looked at first", NoSuchElementException.class, () -> h.purity(3));
        CHECK.yes("again", h.density(1, 1));
        CHECK.yes("h", h.mix(0, 0));
        CHECK.yes("a SPOIL", h.spoil(0, 1, 1));
        CHECK.row("PURITY", h::purity, 0, 1, 0, 0);
        justFifty();
    }

    /** Gates leave the PURITY as it is, whatever they make of k. */
    private static void justFifty() {
        RootHouse h = new RootHouse();
        Check.circuit(h, "1:h0;t0;");
        h.density(1, 0);
        for (int i = 0; i < 4; i++) {
            h.spoil(0, 0, 1);
        }
        long[] before = {h.purity(0), h.purity(1), h.purity(2)};
        for (int i = 0; i < 36; i++) {
            if (i == 34) {
                CHECK.same("k", Math.max(h.entry(0, 0, 4), h.entry(0, 1, 4)), 50);
                CHECK.row("PURITY", h::purity, 0, before);
            }
            h.mix(0, i % 2);
        }
        CHECK.same("k", Math.max(h.entry(0, 0, 4), h.entry(0, 1, 4)), 51);
        CHECK.fails("a k above 50", ArithmeticException.class, () -> h.purity(0));
    }

    /** Without m, r and SPOILS D(i, j) is the STATE at i times its conjugate at j. */
    private static void asStates() {
        String text = "2:h0;t0;h0;0>-s1;x1;1>h0;-t1;w01;y0;";
        RootHouse h = done(text, 1);
        h.begin(0, 1, 0);
        h.run(400);
        for (int part = 0; part < 3; part++) {
            CHECK.same("PURITY", h.purity(part), h.weight(0, 0, part));
        }
        for (int i = 0; i < 4; i++) {
            CHECK.yes("WEIGHT of " + i, Math.abs(real(h, i) - h.entry(i, i, 0) * Math.pow(2, -h.entry(i, i, 4) / 2.0)
                - h.entry(i, i, 1) * Math.sqrt(2) * Math.pow(2, -h.entry(i, i, 4) / 2.0)) < 1e-9);
        }
    }

    private static double real(RootHouse h, int i) {
        return (h.weight(3, i, 0) + h.weight(3, i, 1) * Math.sqrt(2)) / Math.pow(2, h.weight(3, i, 2));
    }
}

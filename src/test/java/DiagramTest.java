import java.util.NoSuchElementException;
import java.util.Random;

/** Promises 25 to 29: DIAGRAMS, how they are MADE, rewritten and REDUCED, and what they mean. */
public final class DiagramTest {
    private static final Check CHECK = new Check("diagrams");

    public static void main(String[] args) {
        made();
        refused();
        fused();
        skipped();
        complemented();
        pivoted();
        together();
        meanings();
        meaningsStay();
        CHECK.end();
    }

    private static RootHouse drawn(String text, int spiders) {
        RootHouse h = new RootHouse();
        CHECK.same(text + " spiders", h.diagram(Check.circuit(h, text)), spiders);
        CHECK.same(text + " total", h.total(3), Math.max(spiders, 0));
        return h;
    }

    private static void made() {
        RootHouse h = drawn("2:", 4);
        CHECK.same("INPUT and OUTPUT", h.spider(0, 102), 1);
        CHECK.same("INPUT and OUTPUT", h.spider(3, 101), 1);
        CHECK.same("not these", h.spider(0, 103), 0);
        h = drawn("2:h0;w01;", 4);
        CHECK.same("it crosses over, TURNED", h.spider(0, 103), 2);
        CHECK.same("and back", h.spider(1, 102), 1);
        h = drawn("2:h0;h1;w01;", 4);
        CHECK.same("both are TURNED", h.spider(0, 103), 2);
        CHECK.same("both are TURNED", h.spider(1, 102), 2);
        RootHouse g = drawn("1:x0;y0;z0;s0;t0;-s0;-t0;", 10);
        CHECK.row("PHASES", i -> g.spider(i, 0), 0, 0, 0, 4, 4, 4, 4, 2, 1, 6, 7, -1);
        CHECK.row("EDGES", i -> g.spider(i, 1), 0, 1, 1, 2, 2, 2, 2, 2, 2, 2, 2, -1);
        CHECK.row("of SPIDER 2", w -> g.spider(2, w), 99, -1, 2, 0, 0, 2);
        CHECK.row("of SPIDER 5", w -> g.spider(5, w), 103, 0, 2, 0, 1);
        CHECK.same("y is z, then x", g.spider(3, 104), 2);
        CHECK.same("j above all", g.spider(2, 159), 0);
        CHECK.same("no such what", g.spider(2, 160), -1);
        CHECK.same("no such what", g.spider(2, 2), -1);
        CHECK.same("no such SPIDER", g.spider(-1, 0), -1);
        RootHouse f = drawn("2:0>x1;1>z0;", 8);
        CHECK.row("of SPIDER 5", w -> f.spider(5, w), 100, 0, 2, 0, 0, 2, 0, 2, 0);
        CHECK.row("of SPIDER 6", w -> f.spider(6, w), 102, 0, 1, 0, 2, 0, 2);
        CHECK.row("of SPIDER 7", w -> f.spider(7, w), 102, 1, 0, 1, 0, 2, 0);
    }

    private static void refused() {
        String[] texts = {"5:", "1:m00;", "1:r0;", "1:?0[x0;]", "2:0>y1;", "3:0>1>x2;", "2:0>h1;", "3:0>w12;", "2:0>s1;"};
        for (String text : texts) {
            drawn(text, -1);
        }
        drawn("1:*9[*6[t0;]]*4[t0;]", 60);
        drawn("1:*9[*6[t0;]]*5[t0;]", -1);
        drawn("2:*4[*7[0>z1;]]", 60);
        drawn("2:*4[*7[0>x1;]]t0;", -1);
        drawn("1:*5[*5[y0;]]*4[y0;]", 60);
        drawn("1:*5[*6[y0;]]", -1);
        RootHouse h = drawn("1:t0;", 3);
        CHECK.same("no such circuit", h.diagram(1), -1);
        CHECK.same("no such circuit", h.diagram(-1), -1);
        Check.circuit(h, "1:m00;");
        CHECK.same("refused", h.diagram(1), -1);
        CHECK.same("the old one stays", h.spider(2, 0), 1);
        CHECK.no("no such RULE", h.rewrite(0, 2, 2));
        CHECK.no("no such RULE", h.rewrite(5, 2, 2));
        RootHouse none = new RootHouse();
        CHECK.no("no DIAGRAM", none.rewrite(2, 0, 0));
        CHECK.same("no DIAGRAM", none.reduce(), -1);
    }

    private static void fused() {
        RootHouse h = drawn("2:s0;0>z1;t0;h0;t0;", 9);
        CHECK.no("the greater first", h.rewrite(1, 5, 4));
        CHECK.no("TURNED", h.rewrite(1, 5, 6));
        CHECK.no("an INPUT", h.rewrite(1, 0, 4));
        CHECK.yes("4 and 5", h.rewrite(1, 4, 5));
        CHECK.same("5 is gone", h.spider(5, 0), -1);
        CHECK.no("5 is gone", h.rewrite(1, 5, 7));
        CHECK.same("one fewer", h.total(3), 8);
        CHECK.yes("4 and 7", h.rewrite(1, 4, 7));
        CHECK.row("of SPIDER 4", w -> h.spider(4, w), 0, 3, 3);
        CHECK.row("its EDGES", w -> h.spider(4, w), 100, 1, 0, 0, 0, 0, 0, 2, 0, 2);
        CHECK.same("reduced", h.reduce(), 0);
    }

    private static void skipped() {
        RootHouse h = drawn("2:0>z1;0>z1;t1;", 9);
        CHECK.no("three EDGES", h.rewrite(2, 4, 0));
        RootHouse g = drawn("1:z0;z0;h0;z0;z0;t0;", 7);
        CHECK.yes("z z", g.rewrite(1, 2, 3));
        CHECK.yes("z z", g.rewrite(1, 4, 5));
        CHECK.no("4 has PHASE 0, 2 too, but 6 not", g.rewrite(2, 6, 0));
        CHECK.yes("4 goes", g.rewrite(2, 4, 99));
        CHECK.same("TURNED", g.spider(2, 106), 2);
        CHECK.yes("2 goes", g.rewrite(2, 2, 0));
        CHECK.same("to the INPUT", g.spider(0, 106), 2);
        CHECK.no("6 has a PHASE", g.rewrite(2, 6, 0));
        RootHouse f = drawn("1:z0;z0;", 4);
        f.rewrite(1, 2, 3);
        CHECK.no("between INPUT and OUTPUT", f.rewrite(2, 2, 0));
        RootHouse e = drawn("1:z0;z0;h0;s0;h0;z0;z0;", 7);
        CHECK.same("reduced", e.reduce(), 4);
        CHECK.row("just one", i -> e.spider(i, 0), 2, -1, -1, 2, -1, -1);
    }

    private static void complemented() {
        RootHouse h = drawn("1:t0;h0;s0;h0;t0;", 5);
        CHECK.no("PHASE 1", h.rewrite(3, 2, 0));
        CHECK.yes("PHASE 2", h.rewrite(3, 3, 0));
        CHECK.row("its neighbours", i -> h.spider(i, 0), 2, 7, -1, 7);
        CHECK.same("an EDGE came", h.spider(2, 104), 2);
        RootHouse g = drawn("1:h0;s0;h0;t0;", 4);
        CHECK.no("it has an INPUT", g.rewrite(3, 2, 0));
        RootHouse f = drawn("1:t0;h0;-s0;h0;t0;", 5);
        CHECK.yes("PHASE 6", f.rewrite(3, 3, 0));
        CHECK.row("its neighbours", i -> f.spider(i, 0), 2, 3, -1, 3);
        RootHouse e = drawn("1:t0;s0;h0;t0;", 5);
        CHECK.no("a PLAIN EDGE", e.rewrite(3, 3, 0));
        RootHouse d = drawn("2:t1;h1;0>z1;s1;0>z1;h1;t1;", 11);
        d.rewrite(1, 6, 7);
        d.rewrite(1, 6, 9);
        CHECK.same("four EDGES", d.spider(6, 1), 4);
        CHECK.no("a PLAIN EDGE among its neighbours", d.rewrite(3, 6, 0));
        CHECK.yes("it goes", d.rewrite(1, 5, 8));
        CHECK.yes("then it can be", d.rewrite(3, 6, 0));
    }

    private static void pivoted() {
        RootHouse h = drawn("1:t0;h0;z0;h0;z0;h0;t0;", 6);
        CHECK.no("the greater first", h.rewrite(4, 4, 3));
        CHECK.no("no EDGE", h.rewrite(4, 3, 5));
        CHECK.no("PHASE 1", h.rewrite(4, 2, 3));
        CHECK.yes("3 and 4", h.rewrite(4, 3, 4));
        CHECK.row("PHASES", i -> h.spider(i, 0), 2, 5, -1, -1, 5);
        CHECK.same("an EDGE came", h.spider(2, 105), 2);
        RootHouse g = drawn("1:h0;z0;h0;z0;h0;t0;", 5);
        CHECK.no("an INPUT", g.rewrite(4, 2, 3));
        RootHouse f = drawn("1:h0;z0;h0;t0;", 4);
        CHECK.no("the INPUT itself", f.rewrite(4, 0, 2));
        CHECK.no("the same", f.rewrite(4, 2, 2));
        RootHouse e = drawn("2:t1;h1;z1;h1;0>z1;0>z1;h1;t1;", 11);
        e.rewrite(1, 7, 9);
        CHECK.no("a PLAIN EDGE among its neighbours", e.rewrite(4, 5, 7));
        CHECK.yes("it goes", e.rewrite(1, 6, 8));
        CHECK.yes("then it can be", e.rewrite(4, 5, 7));
        CHECK.row("PHASES", i -> e.spider(i, 0), 4, 1, -1, 0, -1, -1, -1, 5);
    }

    private static void together() {
        RootHouse h = drawn("2:0>z1;0>z1;", 8);
        CHECK.yes("4 and 6", h.rewrite(1, 4, 6));
        CHECK.yes("5 and 7: TURNED and TURNED is none", h.rewrite(1, 5, 7));
        CHECK.same("none", h.spider(4, 105), 0);
        CHECK.same("and no PHASE", h.spider(4, 0), 0);
        RootHouse g = drawn("2:0>z1;h0;0>x1;", 8);
        CHECK.same("no RULE can be done", g.reduce(), 0);
        RootHouse f = drawn("2:t0;0>z1;0>x1;h1;0>z1;s0;", 12);
        CHECK.yes("it is REDUCED", f.reduce() > 0);
        CHECK.same("nothing is left to do", f.reduce(), 0);
        CHECK.no("nothing", f.rewrite(2, 4, 0));
    }

    private static void meanings() {
        RootHouse h = drawn("1:h0;t0;", 3);
        CHECK.row("0 0", part -> h.meaning(0, 0, part), 0, 1, 0, 0, 0, 0);
        CHECK.row("0 1", part -> h.meaning(0, 1, part), 0, 0, 1, 0, 0, 0);
        CHECK.row("1 1", part -> h.meaning(1, 1, part), 0, 0, -1, 0, 0, 0);
        CHECK.fails("no such START", NoSuchElementException.class, () -> h.meaning(2, 0, 0));
        CHECK.fails("no such START", NoSuchElementException.class, () -> h.meaning(0, -1, 0));
        CHECK.fails("no such part", NoSuchElementException.class, () -> h.meaning(0, 0, 5));
        CHECK.fails("no DIAGRAM", NoSuchElementException.class, () -> new RootHouse().meaning(0, 0, 0));
        RootHouse g = drawn("1:*9[t0;]t0;t0;t0;t0;", 15);
        CHECK.fails("13", IllegalStateException.class, () -> g.meaning(0, 0, 0));
        CHECK.fails("START first", NoSuchElementException.class, () -> g.meaning(0, 2, 0));
        g.rewrite(1, 2, 3);
        CHECK.row("12", part -> g.meaning(1, 1, part), 0, 0, -1, 0, 0, 0);
        CHECK.row("12", part -> g.meaning(0, 1, part), 0, 0, 0, 0, 0, 0);
    }

    /** A RULE changes all MEANINGS by one factor alone. */
    private static void meaningsStay() {
        Random random = new Random(27);
        String[] gates = {"h0;", "h1;", "s0;", "-s1;", "z0;", "x1;", "t0;", "0>z1;", "1>x0;", "h0;", "h1;", "z1;"};
        for (int round = 0; round < 60; round++) {
            StringBuilder text = new StringBuilder("2:");
            for (int i = 0; i < 8; i++) {
                text.append(gates[random.nextInt(gates.length)]);
            }
            RootHouse h = new RootHouse();
            h.diagram(Check.circuit(h, text.toString()));
            if (h.total(3) > 15) {
                continue;
            }
            double[] before = meaningsOf(h);
            h.reduce();
            CHECK.yes(text + " means the same", alike(before, meaningsOf(h)));
        }
    }

    private static double[] meaningsOf(RootHouse h) {
        double[] values = new double[32];
        for (int i = 0; i < 16; i++) {
            for (int part = 0; part < 4; part++) {
                long number = h.meaning(i & 3, i >> 2, part);
                values[2 * i] += number * Math.cos(part * Math.PI / 4);
                values[2 * i + 1] += number * Math.sin(part * Math.PI / 4);
            }
        }
        return values;
    }

    private static boolean alike(double[] a, double[] b) {
        boolean some = false;
        for (int i = 0; i < a.length; i += 2) {
            some |= Math.hypot(b[i], b[i + 1]) > 1e-6;
            for (int j = 0; j < a.length; j += 2) {
                double real = a[i] * b[j] - a[i + 1] * b[j + 1] - a[j] * b[i] + a[j + 1] * b[i + 1];
                double imaginary = a[i] * b[j + 1] + a[i + 1] * b[j] - a[j] * b[i + 1] - a[j + 1] * b[i];
                if (Math.hypot(real, imaginary) > 1e-6) {
                    return false;
                }
            }
        }
        return some;
    }
}

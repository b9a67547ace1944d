import java.util.Random;

/** Promises 33 to 39 and 52 to 55: THE FORM, least circuits, ways on the CHIP, games, KIN, costs, totals. */
public final class SearchTest {
    private static final Check CHECK = new Check("searches");

    public static void main(String[] args) {
        forms();
        formsAreEqual();
        leastOnes();
        leastOnesDoIt();
        links();
        routes();
        games();
        kin();
        costs();
        totals();
        CHECK.end();
    }

    private static void form(String text, String due) {
        RootHouse h = new RootHouse();
        int c = Check.circuit(h, text);
        CHECK.same(text, Check.form(h, c), due);
        CHECK.same(text + " t's", h.letter(-1), due.chars().filter(l -> l == 't').count());
        CHECK.same("behind the last one", h.letter(due.length()), -1);
        CHECK.same("no such letter", h.letter(-2), -1);
    }

    private static void forms() {
        form("1:", "");
        form("1:h0;", "h");
        form("1:h0;h0;", "");
        form("1:t0;", "t");
        form("1:t0;t0;", "s");
        form("1:-s0;", "sss");
        form("1:z0;", "ss");
        form("1:x0;", "hssh");
        form("1:y0;", "hsshss");
        form("1:-t0;", "tsss");
        form("1:t0;h0;", "ht");
        form("1:t0;h0;s0;", "sht");
        form("1:h0;t0;", "th");
        form("1:t0;h0;t0;h0;s0;t0;", "tshtht");
        form("1:h0;t0;h0;t0;s0;h0;-t0;x0;", "thtshthshsss");
        RootHouse h = new RootHouse();
        CHECK.same("none was told", h.letter(0), -1);
        CHECK.same("no such circuit", h.form(0), -1);
        Check.circuit(h, "1:t0;");
        Check.circuit(h, "2:t0;");
        Check.circuit(h, "1:m00;");
        Check.circuit(h, "1:?0[x0;]");
        CHECK.same("one letter", h.form(0), 1);
        CHECK.row("refused", h::form, 1, -1, -1, -1, -1);
        CHECK.row("the latest one stays", h::letter, -1, 1, 't', -1);
        h.clear();
        CHECK.same("it stays", h.letter(0), 't');
    }

    private static void formsAreEqual() {
        Random random = new Random(33);
        String[] gates = {"x0;", "y0;", "z0;", "h0;", "s0;", "t0;", "-s0;", "-t0;", "h0;", "t0;"};
        for (int round = 0; round < 60; round++) {
            StringBuilder text = new StringBuilder("1:");
            for (int i = 0; i < 40; i++) {
                text.append(gates[random.nextInt(gates.length)]);
            }
            RootHouse h = new RootHouse();
            int c = Check.circuit(h, text.toString());
            String form = Check.form(h, c);
            StringBuilder back = new StringBuilder("1:");
            for (int i = form.length() - 1; i >= 0; i--) {
                back.append(form.charAt(i)).append("0;");
            }
            CHECK.same(text + " is " + form, h.equal(c, Check.circuit(h, back.toString())), 1);
            CHECK.yes(form + " is a FORM", form.matches("t?(ht|sht)*[hs]{0,6}"));
        }
    }

    private static int permutation(int... to) {
        int number = 0;
        for (int i = 0; i < 8; i++) {
            number |= to[i] << 3 * i;
        }
        return number;
    }

    private static void least(int permutation, String due) {
        RootHouse h = new RootHouse();
        int c = h.least(permutation);
        CHECK.same(due, c, 0);
        CHECK.same("least", Check.written(h, c), due);
    }

    private static void leastOnes() {
        least(permutation(0, 1, 2, 3, 4, 5, 6, 7), "3:");
        least(permutation(1, 0, 3, 2, 5, 4, 7, 6), "3:x0;");
        least(permutation(0, 1, 2, 3, 4, 5, 7, 6), "3:1>2>x0;");
        least(permutation(7, 6, 5, 4, 3, 2, 1, 0), "3:x0;x1;x2;");
        least(permutation(0, 2, 1, 3, 4, 6, 5, 7), "3:1>x0;0>x1;1>x0;");
        least(permutation(2, 0, 6, 1, 4, 7, 3, 5), "3:x0;1>x0;2>x0;1>2>x0;0>x1;1>x0;0>1>x2;1>2>x0;");
        least(permutation(5, 1, 2, 4, 6, 3, 7, 0), "3:x0;x1;1>2>x0;0>x1;1>x2;1>2>x0;0>2>x1;x2;");
        RootHouse h = new RootHouse();
        CHECK.same("0 is none", h.least(0), -1);
        CHECK.same("bit 24", h.least(permutation(0, 1, 2, 3, 4, 5, 6, 7) | 1 << 24), -1);
        CHECK.same("bit 31", h.least(permutation(0, 1, 2, 3, 4, 5, 6, 7) | 1 << 31), -1);
        CHECK.same("twice", h.least(permutation(0, 1, 2, 3, 4, 5, 6, 6)), -1);
        for (int i = 0; i < 20; i++) {
            h.least(permutation(0, 1, 2, 3, 4, 5, 6, 7));
        }
        CHECK.same("there are 20", h.least(permutation(0, 1, 2, 3, 4, 5, 6, 7)), -1);
    }

    private static void leastOnesDoIt() {
        Random random = new Random(35);
        for (int round = 0; round < 60; round++) {
            int[] to = {0, 1, 2, 3, 4, 5, 6, 7};
            for (int i = 7; i > 0; i--) {
                int j = random.nextInt(i + 1);
                int kept = to[i];
                to[i] = to[j];
                to[j] = kept;
            }
            RootHouse h = new RootHouse();
            int c = h.least(permutation(to));
            CHECK.yes("at most 8", h.look(c, 1) <= 8);
            for (int start = 0; start < 8; start++) {
                h.begin(c, start, 0);
                if (h.look(c, 1) > 0) {
                    h.run(400);
                }
                CHECK.same(Check.written(h, c) + " of " + start, h.amplitude(to[start], 0), 1);
            }
        }
    }

    private static void links() {
        RootHouse h = new RootHouse();
        CHECK.no("no such place", h.link(6, 0, true));
        CHECK.no("no such place", h.link(0, -1, true));
        CHECK.no("the same", h.link(2, 2, true));
        CHECK.yes("a LINK", h.link(5, 0, true));
        CHECK.yes("the same LINK", h.link(0, 5, true));
        CHECK.same("one", h.total(4), 1);
        CHECK.yes("none there", h.link(1, 2, false));
        CHECK.yes("gone", h.link(0, 5, false));
        CHECK.same("none", h.total(4), 0);
    }

    private static RootHouse chip(int... ends) {
        RootHouse h = new RootHouse();
        for (int i = 0; i < ends.length; i += 2) {
            h.link(ends[i], ends[i + 1], true);
        }
        return h;
    }

    private static void route(RootHouse h, String text, int swaps, String due) {
        int before = h.total(5);
        int c = Check.circuit(h, text);
        int r = h.route(c);
        CHECK.same(text, r, due == null ? -1 : c + 1);
        CHECK.same(text + " SWAPS", h.total(5), due == null ? before : swaps);
        if (due != null) {
            CHECK.same(text, Check.written(h, r), due);
        }
    }

    private static void routes() {
        RootHouse line = chip(0, 1, 1, 2, 2, 3, 3, 4, 4, 5);
        route(line, "2:h0;0>x1;", 0, "6:h0;0>x1;");
        route(line, "3:0>x2;h0;", 1, "6:w01;1>x2;h1;");
        route(line, "4:0>x3;1>x2;0>x1;h3;w23;", 3, "6:w01;w12;2>x3;0>x1;w12;1>x0;h3;w23;");
        route(line, "6:w50;", 4, "6:w01;w12;w23;w34;w54;");
        route(line, "3:0>w12;", 0, null);
        route(line, "3:m00;", 0, null);
        route(line, "3:r0;", 0, null);
        route(line, "3:?0[x0;]", 0, null);
        route(line, "7:x0;", 0, null);
        route(new RootHouse(), "2:h0;", 0, "6:h0;");
        route(new RootHouse(), "2:0>x1;", 0, null);
        route(chip(0, 2, 1, 2), "3:0>-t1;", 1, "6:w02;2>-t1;");
        route(chip(0, 3, 1, 3), "2:0>x1;x0;", 1, "6:w03;3>x1;x3;");
        RootHouse most = chip(0, 1);
        Check.circuit(most, "1:*9[*9[x0;x0;x0;]]*9[*6[x0;]]*3[x0;]");
        CHECK.same("300 OPS", most.route(0), 1);
        CHECK.row("as they were", what -> most.look(1, what), 0, 6, 300, 0, 902);
        RootHouse full = chip(0, 1);
        Check.circuit(full, "3:*9[*9[x0;x0;x0;]]*9[*6[x0;]]x0;x0;0>x1;");
        CHECK.same("just 300", full.route(0), 1);
        RootHouse over = chip(0, 1, 1, 2);
        Check.circuit(over, "3:*9[*9[x0;x0;x0;]]*9[*6[x0;]]x0;x0;0>x2;");
        CHECK.same("300 and a SWAP", over.route(0), -1);
        CHECK.same("no such circuit", over.route(1), -1);
        CHECK.same("no such circuit", over.route(-1), -1);
        for (int i = 0; i < 19; i++) {
            Check.circuit(over, "1:");
        }
        CHECK.same("there are 20", over.route(1), -1);
        longRoutes();
    }

    /** 198 OPS of two WIRES need 98 SWAPS on a row of three: with four OPS more it has just 300. */
    private static void longRoutes() {
        String text = "3:*7[*9[0>x1;1>x2;0>x2;]]*3[0>x1;1>x2;0>x2;]x0;x0;x0;x0;";
        RootHouse h = chip(0, 1, 1, 2);
        CHECK.same("300 with its SWAPS", h.route(Check.circuit(h, text)), 1);
        CHECK.same("OPS", h.look(1, 1), 300);
        CHECK.same("SWAPS", h.total(5), 98);
        CHECK.same("301 with its SWAPS", h.route(Check.circuit(h, text + "x0;")), -1);
        CHECK.same("SWAPS as before", h.total(5), 98);
        CHECK.same("a short one behind a long one", h.route(Check.circuit(h, "3:0>x2;")), 4);
        CHECK.same("its own", Check.written(h, 4), "6:w01;1>x2;");
        CHECK.same("other LINKS", h.link(0, 1, false) && h.link(0, 2, true) ? 1 : 0, 1);
        CHECK.same("for the same WIRES", h.route(Check.circuit(h, "3:0>x1;")), 6);
        CHECK.same("by them", Check.written(h, 6), "6:w02;2>x1;");
    }

    private static void games() {
        RootHouse h = new RootHouse();
        CHECK.same("none yet", h.played(), -1);
        CHECK.same("nothing wins", h.game(0), 0);
        CHECK.same("the least", h.played(), 0);
        CHECK.same("all win", h.game(-1), 16);
        CHECK.same("the least", h.played(), 0);
        long chsh = 0;
        long ones = 0;
        for (int i = 0; i < 64; i++) {
            int s = i >> 4;
            int t = i >> 2 & 3;
            int a = i >> 1 & 1;
            int b = i & 1;
            chsh |= (a ^ b) == (s & t & 1) ? 1L << i : 0;
            ones |= a == 1 && b == (t == 2 ? 1 : 0) ? 1L << i : 0;
        }
        CHECK.same("three of four", h.game(chsh), 12);
        CHECK.same("the least", h.played(), 0);
        CHECK.same("answers", h.game(ones), 16);
        CHECK.same("16 * 15 + 4", h.played(), 244);
    }

    private static void kin() {
        RootHouse h = new RootHouse();
        CHECK.row("one pair", w -> h.kin(2, 1, w), -1, -1, 1, 1, 1, -1);
        CHECK.row("no pair", w -> h.kin(2, 0, w), 0, 1, 0, 0);
        CHECK.row("a triangle", w -> h.kin(3, 7, w), 0, 4, 3, 2);
        CHECK.row("a path", w -> h.kin(3, 5, w), 0, 4, 3, 2);
        CHECK.row("all of 4", w -> h.kin(4, 63, w), 0, 5, 11, 3);
        CHECK.row("all of 6", w -> h.kin(6, 32767, w), 0, 7, 1099, 5);
        CHECK.same("no such n", h.kin(1, 0, 0), -1);
        CHECK.same("no such n", h.kin(7, 0, 0), -1);
        CHECK.same("no such GRAPH", h.kin(3, 8, 0), -1);
        CHECK.same("no such GRAPH", h.kin(3, -1, 0), -1);
    }

    private static void costs() {
        RootHouse h = new RootHouse();
        CHECK.row("without LEGS", h::cost, -1, -1, -1, 0, 1, 2, 3, 4, 5, 6, 7, 8, -1);
        CHECK.yes("legs", h.tensor(0, 3));
        CHECK.yes("legs", h.tensor(1, 6));
        CHECK.yes("legs", h.tensor(2, 12));
        CHECK.no("no such TENSOR", h.tensor(9, 0));
        CHECK.no("no such TENSOR", h.tensor(-1, 0));
        CHECK.no("no such LEGS", h.tensor(2, 65536));
        CHECK.no("no such LEGS", h.tensor(2, -1));
        CHECK.row("a chain", h::cost, 1, 0, 8, 16);
        h.tensor(0, 65535);
        h.tensor(1, 65535);
        CHECK.same("all LEGS", h.cost(2), 65536);
        h.tensor(2, 7);
        h.tensor(3, 56);
        CHECK.same("those that are small first", h.cost(4), 65536 + 8 + 64);
    }

    private static void totals() {
        RootHouse h = new RootHouse();
        Check.type(h, "1 :h0;");
        CHECK.same("blanks count", h.total(1), 6);
        h.circuit();
        h.diagram(0);
        h.term(1, 0, 1, 0);
        h.term(2, 0, 1, 0);
        h.sum(2);
        h.sum(0);
        h.table(4);
        CHECK.row("total", h::total, 0, 1, 0, 4, 2, 0, 0, 1, 2, -1);
    }
}

import java.util.ArrayList;
import java.util.List;
import java.util.function.Supplier;
import java.util.function.ToLongFunction;

/**
 * "A call that throws, or answers false or NONE, changes nothing but what tells of FAULTS and the TAPE."
 * Each refused call is made on a house of its own, and then all that the house can be asked is compared with
 * what a house says to which it was not made. No house gets more than 512 calls.
 */
public final class NothingChangesTest {
    private static final Check CHECK = new Check("nothing changes");
    private static final int MIN = Integer.MIN_VALUE;
    private static final int MAX = Integer.MAX_VALUE;
    private static int calls;
    private static List<String> due;
    private static Supplier<RootHouse> maker;

    public static void main(String[] args) {
        start(RootHouse::new);
        ofNothing();
        start(NothingChangesTest::busy);
        texts();
        circuits();
        runs();
        tables();
        diagrams();
        codes();
        searches();
        sums();
        densities();
        start(NothingChangesTest::full);
        twenty();
        CHECK.end();
    }

    private static void start(Supplier<RootHouse> with) {
        maker = with;
        due = told(maker.get(), true);
        CHECK.yes("there are at most 512 calls", calls <= 500);
    }

    /** One call that is refused, and what it says then. */
    private static void refused(String what, String answer, ToLongFunction<RootHouse> call) {
        RootHouse h = maker.get();
        CHECK.same(what, Check.said(() -> call.applyAsLong(h)), answer);
        compare(what, told(h, true), due);
    }

    private static void none(String what, ToLongFunction<RootHouse> call) {
        refused(what, "-1", call);
    }

    private static void noSuch(String what, ToLongFunction<RootHouse> call) {
        refused(what, "NoSuchElementException", call);
    }

    private static void compare(String what, List<String> got, List<String> due) {
        CHECK.same(what + ": as many answers", got.size(), due.size());
        for (int i = 0; i < got.size() && i < due.size(); i++) {
            CHECK.same("behind " + what, got.get(i), due.get(i));
        }
    }

    private static long is(boolean answer) {
        return Check.yesOrNone(answer);
    }

    private static RootHouse busy() {
        RootHouse h = new RootHouse();
        String[] texts = {"2:h0;0>x1;m01;?1[x1;]", "2:t1;h1;0>z1;s1;h1;", "1:t0;h0;s0;", "3:0>x2;h0;", "1:m00;", "6:m00;", "2:h0;"};
        for (String text : texts) {
            Check.circuit(h, text);
        }
        Check.type(h, "XX,ZZ");
        h.code();
        h.begin(0, 1, 1);
        h.run(3);
        h.table(2);
        h.gate(3, 0, 0);
        h.gate(5, 0, 1);
        h.equal(1, 6);
        h.diagram(1);
        h.rewrite(1, 6, 7);
        h.form(2);
        h.link(0, 1, true);
        h.link(1, 2, true);
        h.route(3);
        h.game(0x123456789ABCDEF0L);
        h.term(1, 2, 3, 4);
        h.sum(2);
        h.sum(0);
        h.ladder(0, true);
        h.density(2, 1);
        h.mix(1, 1);
        h.spoil(1, 0, 3);
        h.tensor(0, 3);
        h.tensor(1, 6);
        Check.type(h, "1:x");
        return h;
    }

    private static RootHouse full() {
        RootHouse h = new RootHouse();
        Check.circuit(h, "2:h0;0>x1;");
        h.link(0, 1, true);
        h.route(0);
        h.begin(0, 1, 1);
        h.diagram(0);
        while (h.total(0) < 20) {
            h.derive(0, 0, 0);
        }
        return h;
    }

    /** All that a house tells; with its TAPE and FAULTS, or without. */
    private static List<String> told(RootHouse h, boolean tape) {
        List<String> said = new ArrayList<>();
        calls = 40;
        for (int what = 0; what < 8; what++) {
            add(said, "total " + what, what == 1 && !tape ? 0 : h.total(what));
        }
        add(said, "fault", tape ? h.fault(0) + 10 * h.fault(1) : 0);
        tellCircuits(h, said);
        tellRun(h, said);
        tellDiagram(h, said);
        tellTable(h, said);
        tellOthers(h, said);
        tellDensity(h, said);
        tellSums(h, said);
        goOn(h, said, tape);
        return said;
    }

    private static void add(List<String> said, String what, long answer) {
        said.add(what + " is " + answer);
        calls++;
    }

    private static void add(List<String> said, String what, java.util.function.LongSupplier call) {
        said.add(what + " is " + Check.said(call));
        calls++;
    }

    private static void tellCircuits(RootHouse h, List<String> said) {
        for (int c = 0; c < 9; c++) {
            int ops = h.look(c, 1);
            add(said, "look", h.look(c, 0));
            for (int i = 0; i <= ops; i++) {
                add(said, "op " + c + " " + i, h.op(c, i, 0) + 100L * h.op(c, i, 1) + 10000L * h.op(c, i, 3));
                calls += 2;
            }
        }
        add(said, "look of the last", h.look(19, 1));
        add(said, "look of the last", h.look(19, 3));
    }

    private static void tellRun(RootHouse h, List<String> said) {
        for (int what = 0; what < 8; what++) {
            add(said, "state " + what, h.state(what));
        }
        for (int i = 0; i < 20; i++) {
            int at = i;
            add(said, "amplitude", () -> h.amplitude(at / 5, at % 5));
        }
        add(said, "group", h.group(-1, 0));
        add(said, "group", h.group(0, 1));
    }

    private static void tellDiagram(RootHouse h, List<String> said) {
        for (int i = 0; i < 12; i++) {
            add(said, "PHASE of " + i, h.spider(i, 0));
            for (int j = 0; j < i; j++) {
                add(said, "EDGE of " + i + " and " + j, h.spider(i, 100 + j));
            }
        }
    }

    private static void tellTable(RootHouse h, List<String> said) {
        for (int i = 0; i < 9; i++) {
            add(said, "row " + i / 3, h.row(i / 3, i % 3));
        }
    }

    private static void tellOthers(RootHouse h, List<String> said) {
        add(said, "same", h.same());
        add(said, "played", h.played());
        for (int k = -1; k < 4; k++) {
            add(said, "letter " + k, h.letter(k));
        }
        for (int what : new int[] {0, 1, 2, 102, 201, 302, 401, 403}) {
            add(said, "codes " + what, h.codes(what));
        }
        add(said, "pauli", h.pauli(7, 0));
        add(said, "cost", h.cost(2));
        add(said, "cost", h.cost(9));
    }

    private static void tellDensity(RootHouse h, List<String> said) {
        for (int i = 0; i < 32; i++) {
            int at = i;
            add(said, "entry " + i / 2, () -> h.entry(at / 8, at / 2 % 4, 4 * (at % 2)));
        }
        add(said, "purity", () -> h.purity(0));
    }

    private static void tellSums(RootHouse h, List<String> said) {
        for (int i = 0; i < 15; i++) {
            int at = i;
            add(said, "told", () -> h.told(at / 5, at % 5));
        }
        h.sum(2);
        for (int i = 0; i < 10; i++) {
            int at = i;
            add(said, "told of B", () -> h.told(at / 5, at % 5));
        }
    }

    /** What is not told yet shows in what comes next. */
    private static void goOn(RootHouse h, List<String> said, boolean tape) {
        add(said, "run", () -> h.run(400));
        add(said, "state", h.state(2));
        add(said, "weight", () -> h.weight(2, 2, 0));
        add(said, "reduce", h.reduce());
        add(said, "measure", h.measure(0, 1));
        add(said, "route", h.route(3));
        add(said, "its OP", h.op(h.total(0) - 1, 0, 0));
        if (tape) {
            Check.type(h, "0;");
            add(said, "circuit", () -> h.circuit());
            add(said, "its OP", h.op(h.total(0) - 1, 0, 0));
        }
    }

    private static void ofNothing() {
        refused("type(n 0)", "-1", h -> is(h.type('1', 0)));
        none("look", h -> h.look(0, 0));
        none("op", h -> h.op(0, 0, 0));
        none("written", h -> h.written(0, 0));
        for (int how = 0; how <= 6; how++) {
            int which = how;
            none("derive", h -> h.derive(which, 0, 0));
        }
        none("begin", h -> is(h.begin(0, 0, 0)));
        refused("run", "IllegalStateException", h -> h.run(1));
        none("state", h -> h.state(0));
        noSuch("amplitude", h -> h.amplitude(0, 0));
        noSuch("weight", h -> h.weight(0, 0, 0));
        noSuch("expected", h -> h.expected(0, 0, 0));
        noSuch("mixed", h -> h.mixed(0, 0, 0, 0));
        none("nodes", h -> h.nodes(0));
        none("group", h -> h.group(-1, 0));
        none("equal", h -> h.equal(0, 0));
        none("diagram", h -> h.diagram(0));
        none("rewrite", h -> is(h.rewrite(1, 2, 3)));
        none("reduce", h -> h.reduce());
        noSuch("meaning", h -> h.meaning(0, 0, 0));
        none("codes", h -> h.codes(0));
        none("pauli", h -> h.pauli(0, 0));
        none("form", h -> h.form(0));
        none("letter", h -> h.letter(-1));
        none("route", h -> h.route(0));
        none("played", h -> h.played());
        none("faulty", h -> h.faulty(0, 0, 0, 0, 0));
        noSuch("told", h -> h.told(0, 0));
        none("mix", h -> is(h.mix(0, 0)));
        none("spoil", h -> is(h.spoil(0, 0, 1)));
        noSuch("entry", h -> h.entry(0, 0, 0));
        noSuch("purity", h -> h.purity(0));
        none("turn", h -> h.turn(0, 1, 0, 1));
    }

    /** The TAPE is empty behind circuit() and code(), and a FAULT may be told: all else is as it was. */
    private static void texts() {
        none("type of 0", h -> is(h.type('0', 0)));
        none("type of 9", h -> is(h.type('0', 9)));
        none("type of 31", h -> is(h.type(31, 1)));
        none("type of 127 ahead", h -> is(h.type(0x7F30, 2)));
        none("fault", h -> h.fault(2));
        none("total", h -> h.total(8));
        List<String> without = told(maker.get(), false);
        for (String text : new String[] {"q", "1;", "5;w00;", "0;@a0;", "0;*9[*9[*9[x0;]]]", "0"}) {
            RootHouse h = maker.get();
            Check.type(h, text);
            CHECK.same("circuit of " + text, Check.said(h::circuit), "IllegalArgumentException");
            CHECK.same("the TAPE is empty", h.total(1), 0);
            compare("circuit of " + text, told(h, false), without);
        }
        RootHouse h = maker.get();
        CHECK.same("code of no CODE", Check.said(h::code), "IllegalArgumentException");
        CHECK.same("the TAPE is empty", h.total(1), 0);
        compare("code", told(h, false), without);
        for (String text : new String[] {"XX,ZI", "XX,XX", "II", "XXXXXXXXX", "X,X"}) {
            RootHouse g = new RootHouse();
            Check.type(g, "XX,ZZ");
            g.code();
            g.pauli(0, 0);
            Check.type(g, text);
            CHECK.same("code of " + text, Check.said(g::code), "IllegalArgumentException");
            CHECK.row("codes", g::codes, 400, 0, 3, 1, 2, -1);
            CHECK.row("codes", g::codes, 0, 2, 2, 2);
        }
    }

    private static void circuits() {
        for (int c : new int[] {MIN, -1, 8, 20, MAX}) {
            none("look", h -> h.look(c, 0));
            none("op", h -> h.op(c, 0, 0));
            none("written", h -> h.written(c, 0));
            none("derive", h -> h.derive(0, c, 0));
            none("derive with such a d", h -> h.derive(1, 0, c));
            none("derive with such a d", h -> h.derive(3, 1, c));
            none("equal", h -> h.equal(c, 1));
            none("equal", h -> h.equal(1, c));
            none("turn", h -> h.turn(c, 1, 0, 1));
            none("begin", h -> is(h.begin(c, 0, 0)));
            none("diagram", h -> h.diagram(c));
            none("form", h -> h.form(c));
            none("route", h -> h.route(c));
            none("faulty", h -> h.faulty(c, 0, 0, 0, 0));
            none("mix", h -> is(h.mix(c, 0)));
        }
        none("look, another what", h -> h.look(0, 4));
        none("op, no such OP", h -> h.op(0, 4, 0));
        none("op, another what", h -> h.op(0, 0, 6));
        none("written", h -> h.written(0, 1000));
        none("derive, another how", h -> h.derive(7, 1, 1));
        none("derive 1, not as many WIRES", h -> h.derive(1, 0, 2));
        none("derive 3, not as many WIRES", h -> h.derive(3, 1, 2));
        none("derive 0 of m", h -> h.derive(0, 0, 0));
        none("derive 2 of m", h -> h.derive(2, 4, 0));
        none("derive 3 with m", h -> h.derive(3, 2, 4));
        none("derive 4 of h", h -> h.derive(4, 1, 0));
        none("derive 5 of m", h -> h.derive(5, 0, 0));
        none("derive 6 of t", h -> h.derive(6, 1, 0));
        none("derive 6 of one WIRE", h -> h.derive(6, 2, 0));
        none("equal of m", h -> h.equal(0, 1));
        none("equal, not as many WIRES", h -> h.equal(1, 2));
        none("equal of 6 WIRES", h -> h.equal(7, 7));
        none("turn about nothing", h -> h.turn(1, 0, 0, 1));
        none("turn about another WIRE", h -> h.turn(1, 4, 0, 1));
        none("turn by 8", h -> h.turn(1, 1, 0, 8));
    }

    private static void runs() {
        none("begin, no such START", h -> is(h.begin(1, 4, 0)));
        none("begin, no such START", h -> is(h.begin(2, -1, 0)));
        refused("run of 0", "IllegalArgumentException", h -> h.run(0));
        refused("run of 401", "IllegalArgumentException", h -> h.run(401));
        none("state", h -> h.state(8));
        noSuch("amplitude", h -> h.amplitude(4, 0));
        noSuch("amplitude", h -> h.amplitude(0, 5));
        noSuch("weight", h -> h.weight(4, 0, 0));
        noSuch("weight", h -> h.weight(1, 2, 0));
        noSuch("weight", h -> h.weight(1, 1, 3));
        noSuch("expected", h -> h.expected(4, 0, 0));
        noSuch("expected", h -> h.expected(0, 4, 0));
        noSuch("expected", h -> h.expected(0, 0, 3));
        noSuch("mixed", h -> h.mixed(2, 0, 0, 0));
        noSuch("mixed", h -> h.mixed(0, 2, 0, 0));
        noSuch("mixed", h -> h.mixed(0, 0, 2, 0));
        noSuch("mixed", h -> h.mixed(0, 0, 0, 5));
        none("nodes", h -> h.nodes(3));
        none("group", h -> h.group(2, 0));
        none("group", h -> h.group(0, 3));
    }

    private static void tables() {
        none("table of 0", h -> is(h.table(0)));
        none("table of 21", h -> is(h.table(21)));
        none("no such gate", h -> is(h.gate(8, 0, 1)));
        none("no such gate", h -> is(h.gate(-1, 0, 1)));
        for (int gate = 0; gate < 8; gate++) {
            int which = gate;
            none("gate " + gate, h -> is(h.gate(which, 2, 0)));
            none("gate " + gate, h -> is(h.gate(which, -1, 0)));
        }
        for (int gate = 5; gate < 8; gate++) {
            int which = gate;
            none("gate " + gate, h -> is(h.gate(which, 0, 2)));
            none("gate " + gate, h -> is(h.gate(which, 1, 1)));
            none("gate " + gate, h -> is(h.gate(which, 1, -1)));
        }
        none("measure", h -> h.measure(2, 1));
        none("measure", h -> h.measure(-1, 1));
        none("row", h -> h.row(2, 0));
        none("row", h -> h.row(0, 3));
        none("faulty, no such OP", h -> h.faulty(3, 3, 0, 0, 0));
        none("faulty, no such PAULI", h -> h.faulty(3, 0, 8, 0, 0));
        none("faulty, no such what", h -> h.faulty(3, 0, 0, 0, 3));
        none("faulty of t", h -> h.faulty(1, 0, 0, 0, 0));
        none("faulty of BITS", h -> h.faulty(0, 0, 0, 0, 0));
    }

    private static void diagrams() {
        none("diagram of m", h -> h.diagram(0));
        none("diagram of 6 WIRES", h -> h.diagram(7));
        none("spider", h -> h.spider(9, 0));
        none("spider that is gone", h -> h.spider(7, 0));
        none("spider", h -> h.spider(4, 160));
        for (int rule = 0; rule <= 5; rule++) {
            int which = rule;
            none("RULE " + rule, h -> is(h.rewrite(which, 0, 4)));
            none("RULE " + rule, h -> is(h.rewrite(which, 7, 5)));
            none("RULE " + rule, h -> is(h.rewrite(which, 9, 5)));
            none("RULE " + rule, h -> is(h.rewrite(which, 4, 4)));
        }
        noSuch("meaning", h -> h.meaning(4, 0, 0));
        noSuch("meaning", h -> h.meaning(0, 4, 0));
        noSuch("meaning", h -> h.meaning(0, 0, 5));
    }

    private static void codes() {
        for (int what : new int[] {-1, 3, 99, 109, 209, 309, 399, 404, MIN, MAX}) {
            none("codes " + what, h -> h.codes(what));
        }
        none("pauli", h -> h.pauli(16, 0));
        none("pauli", h -> h.pauli(-1, 0));
        none("pauli", h -> h.pauli(0, 3));
    }

    private static void searches() {
        none("form of two WIRES", h -> h.form(1));
        none("form of m", h -> h.form(4));
        none("letter", h -> h.letter(3));
        none("letter", h -> h.letter(-2));
        none("least", h -> h.least(0));
        none("least", h -> h.least(0x1FAC688));
        for (int is = 0; is < 2; is++) {
            boolean there = is == 1;
            none("link", h -> is(h.link(1, 1, there)));
            none("link", h -> is(h.link(6, 1, there)));
            none("link", h -> is(h.link(1, 6, there)));
            none("link", h -> is(h.link(-1, 1, there)));
        }
        none("route of m", h -> h.route(4));
        none("route of BITS", h -> h.route(0));
        none("route of m", h -> h.route(5));
        none("kin", h -> h.kin(1, 0, 0));
        none("kin", h -> h.kin(7, 0, 0));
        none("kin", h -> h.kin(2, 2, 0));
        none("kin", h -> h.kin(2, 1, 3));
        none("tensor", h -> is(h.tensor(9, 1)));
        none("tensor", h -> is(h.tensor(-1, 1)));
        none("tensor", h -> is(h.tensor(0, 65536)));
        none("tensor", h -> is(h.tensor(1, -1)));
        none("cost", h -> h.cost(0));
        none("cost", h -> h.cost(10));
    }

    private static void sums() {
        none("sum", h -> h.sum(8));
        none("sum", h -> h.sum(-1));
        none("term", h -> h.term(256, 0, 1, 1));
        none("term", h -> h.term(0, -1, 1, 1));
        none("term", h -> h.term(1, 0, 1000001, 1));
        none("term", h -> h.term(1, 0, 1, -1000001));
        none("term that is refused", h -> h.term(1, 0, 500000, 0));
        none("ladder", h -> h.ladder(8, true));
        none("ladder", h -> h.ladder(-1, false));
        noSuch("told", h -> h.told(2, 0));
        noSuch("told", h -> h.told(0, 5));
    }

    private static void densities() {
        none("density", h -> is(h.density(0, 0)));
        none("density", h -> is(h.density(4, 0)));
        none("density", h -> is(h.density(2, 4)));
        none("mix, no such OP", h -> is(h.mix(1, 5)));
        none("mix, not as many WIRES", h -> is(h.mix(2, 0)));
        none("mix of BITS", h -> is(h.mix(0, 3)));
        none("spoil", h -> is(h.spoil(2, 0, 1)));
        none("spoil", h -> is(h.spoil(0, 4, 1)));
        none("spoil", h -> is(h.spoil(0, 0, 0)));
        none("spoil", h -> is(h.spoil(0, 0, 17)));
        noSuch("entry", h -> h.entry(4, 0, 0));
        noSuch("entry", h -> h.entry(0, 4, 0));
        noSuch("entry", h -> h.entry(0, 0, 5));
        noSuch("purity", h -> h.purity(3));
    }

    private static void twenty() {
        for (int how = 0; how <= 6; how++) {
            int which = how;
            none("derive " + how, h -> h.derive(which, 0, 0));
        }
        none("least", h -> h.least(0xFAC688));
        none("route", h -> h.route(0));
        none("turn", h -> h.turn(0, 1, 0, 1));
        List<String> without = told(maker.get(), false);
        RootHouse h = maker.get();
        Check.type(h, "1:q");
        CHECK.same("circuit", Check.said(h::circuit), "IllegalStateException");
        CHECK.same("the TAPE is empty", h.total(1), 0);
        CHECK.same("no FAULT", h.fault(0), 0);
        compare("circuit", told(h, false), without);
    }
}

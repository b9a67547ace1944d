import java.util.Arrays;
import java.util.NoSuchElementException;

/** A house for circuits of quantum gates in exact numbers; ../shared/DOC.md says what each call promises. */
public final class RootHouse {
    public static final int NONE = -1;

    private static final int MOST_TAPE = 400;
    private static final int MOST_CIRCUITS = 20;
    private static final int MOST_OPS = 300;
    private static final int MOST_HS = 60;
    private static final int X = 0;
    private static final int Y = 1;
    private static final int Z = 2;
    private static final int H = 3;
    private static final int S = 4;
    private static final int T = 5;
    private static final int BACK_S = 6;
    private static final int BACK_T = 7;
    private static final int W = 8;
    private static final int M = 9;
    private static final int R = 10;
    private static final int NEVER_EQUALLED = -100;
    /** By kind: how many eighths of a full turn a gate puts on a WIRE that is 1 (0: it is no such gate). */
    private static final int[] EIGHTHS = {0, 0, 4, 0, 2, 1, 6, 7, 0, 0, 0};
    /** The other way round; NONE where one gate alone can't tell it. */
    private static final int[] KIND_OF_EIGHTHS = {NONE, T, S, NONE, Z, NONE, BACK_S, BACK_T};

    private final char[] tape = new char[MOST_TAPE];
    private final Reader reader = new Reader();
    private final Bank bank = new Bank();
    private final Play play = new Play();
    private final Signs table = new Signs(20);
    private final Signs carried = new Signs(1);
    private final Roots left = new Roots(32);
    private final Roots right = new Roots(32);
    private final Web web = new Web();
    private final Guard guard = new Guard();
    private final Cliffords cliffords = new Cliffords();
    private final Search search = new Search();
    private final Sums sums = new Sums();
    private final Blur blur = new Blur();
    private int typed = 0;
    private int faultKind = 0;
    private int faultPlace = 0;
    private int sameTold = NEVER_EQUALLED;
    private int playedTold = NONE;

    public RootHouse() {
        table.setZero(1);
    }

    public boolean type(long word, int n) {
        if (n < 1 || n > 8 || typed + n > MOST_TAPE) {
            return false;
        }
        for (int i = 0; i < n; i++) {
            int c = (int) (word >>> 8 * i) & 255;
            if (c < 32 || c > 126) {
                return false;
            }
        }
        for (int i = n - 1; i >= 0; i--) {
            tape[typed] = (char) ((int) (word >>> 8 * i) & 255);
            typed++;
        }
        return true;
    }

    public int circuit() throws IllegalStateException, IllegalArgumentException {
        int length = typed;
        typed = 0;
        if (bank.count >= MOST_CIRCUITS) {
            throw new IllegalStateException("there are 20 circuits");
        }
        reader.read(tape, length);
        faultKind = reader.fault & 7;
        faultPlace = reader.fault >> 3;
        if (faultKind != 0) {
            throw new IllegalArgumentException("the TAPE has a FAULT");
        }
        bank.startDraft();
        for (int i = 0; i < reader.size && i < MOST_OPS; i++) {
            bank.put(reader.ops[i]);
        }
        return bank.keep(reader.width);
    }

    public int fault(int what) {
        return what == 0 ? faultKind : what == 1 ? faultPlace : NONE;
    }

    public void clear() {
        bank.count = 0;
        play.circuit = NONE;
        web.made = 0;
    }

    public int look(int c, int what) {
        if (!bank.has(c)) {
            return NONE;
        }
        switch (what) {
            case 0: return bank.widths[c];
            case 1: return bank.sizes[c];
            case 2: return bank.countHs(c);
            case 3: return bank.spelledLength(c);
            default: return NONE;
        }
    }

    public int op(int c, int i, int what) {
        if (!bank.hasOp(c, i)) {
            return NONE;
        }
        int op = bank.opAt(c, i);
        switch (what) {
            case 0: return Bank.kindOf(op);
            case 1: return Bank.wireOf(op);
            case 2: return Bank.secondOf(op);
            case 3: return Bank.controlsOf(op);
            case 4: return Bank.onesOf(op);
            case 5: return Bank.zerosOf(op);
            default: return NONE;
        }
    }

    public int written(int c, int k) {
        return bank.has(c) ? bank.spelledAt(c, k) : NONE;
    }

    public int derive(int how, int c, int d) {
        boolean two = how == 1 || how == 3;
        if (how < 0 || how > 6 || !bank.has(c) || two && !bank.has(d)) {
            return NONE;
        }
        if (two && bank.widths[c] != bank.widths[d]) {
            return NONE;
        }
        if (how != 1 && !bank.isGates(c) || how == 3 && !bank.isGates(d)) {
            return NONE;
        }
        bank.startDraft();
        boolean can = how == 6 ? cliffords.putShortest(bank, c) : draftDerived(how, c, d);
        return can ? bank.keep(bank.widths[c] + (how == 2 ? 1 : 0)) : NONE;
    }

    private boolean draftDerived(int how, int c, int d) {
        switch (how) {
            case 0:
                bank.putInverse(c);
                return true;
            case 1:
                bank.putAll(c, 0);
                bank.putAll(d, 0);
                return true;
            case 2:
                bank.putAll(c, 1 << bank.widths[c]);
                return bank.widths[c] < 8;
            case 3:
                bank.putAll(d, 0);
                bank.putAll(c, 0);
                bank.putInverse(d);
                return true;
            case 4:
                return bank.putMerged(c);
            default:
                bank.putCancelled(c);
                return true;
        }
    }

    public boolean begin(int c, int start, long tape) {
        if (!bank.has(c) || start < 0 || start >= 1 << bank.widths[c]) {
            return false;
        }
        play.start(c, bank.widths[c], start, tape);
        return true;
    }

    public int run(int n) throws IllegalArgumentException, IllegalStateException {
        if (n < 1 || n > 400) {
            throw new IllegalArgumentException("n is not 1 .. 400");
        }
        if (play.circuit == NONE || play.done >= bank.sizes[play.circuit]) {
            throw new IllegalStateException("no OP is left");
        }
        int steps = Math.min(n, bank.sizes[play.circuit] - play.done);
        for (int i = 0; i < steps; i++) {
            play.step(bank.opAt(play.circuit, play.done));
        }
        return steps;
    }

    public int state(int what) {
        if (play.circuit == NONE) {
            return NONE;
        }
        switch (what) {
            case 0: return play.circuit;
            case 1: return play.done;
            case 2: return play.taken;
            case 3: case 4: case 5: case 6: return play.bits >> what - 3 & 1;
            case 7: return play.roots.countNotZero();
            default: return NONE;
        }
    }

    public long amplitude(int start, int part) throws NoSuchElementException {
        if (play.circuit == NONE || start < 0 || start >= play.roots.size || part < 0 || part > 4) {
            throw new NoSuchElementException("no such ROOT");
        }
        return play.roots.partAt(start, part);
    }

    public long weight(int set, int values, int part) throws NoSuchElementException {
        if (play.circuit == NONE || !play.hasWires(set) || (values & ~set) != 0 || part < 0 || part > 2) {
            throw new NoSuchElementException("no such WEIGHT");
        }
        return play.roots.weightPart(set, values, part);
    }

    public long expected(int xs, int zs, int part) throws NoSuchElementException {
        if (play.circuit == NONE || !play.hasWires(xs) || !play.hasWires(zs) || part < 0 || part > 2) {
            throw new NoSuchElementException("no such PAULI");
        }
        return play.expectedPart(xs, zs, part);
    }

    public long mixed(int wire, int row, int column, int part) throws NoSuchElementException {
        if (play.circuit == NONE || wire < 0 || wire >= play.wires || part < 0 || part > 4) {
            throw new NoSuchElementException("no such matrix");
        }
        if (row < 0 || row > 1 || column < 0 || column > 1) {
            throw new NoSuchElementException("no such row or column");
        }
        return play.mixedPart(1 << wire, row << wire, column << wire, part);
    }

    public int nodes(int level) {
        return play.circuit == NONE || level < 0 || level > play.wires ? NONE : play.countNodes(level);
    }

    public int group(int i, int what) {
        if (play.circuit == NONE) {
            return NONE;
        }
        play.findGroup();
        if (i == NONE) {
            return play.groupSize;
        }
        if (i < 0 || i >= play.groupSize) {
            return NONE;
        }
        switch (what) {
            case 0: return play.groupRows[i] & (1 << play.wires) - 1;
            case 1: return play.groupRows[i] >> play.wires;
            case 2: return play.groupSigns[i];
            default: return NONE;
        }
    }

    public boolean table(int n) {
        if (n < 1 || n > 20) {
            return false;
        }
        table.setZero(n);
        return true;
    }

    public boolean gate(int gate, int a, int b) {
        if (gate < 0 || gate > 7 || a < 0 || a >= table.rows) {
            return false;
        }
        if (gate <= S) {
            table.turnBy(gate, a, 0);
            return true;
        }
        if (b < 0 || b >= table.rows || a == b) {
            return false;
        }
        table.turnBy(gate == 7 ? W : Signs.CONTROLLED + (gate == 5 ? X : Z), b, a);
        return true;
    }

    public int measure(int wire, int bit) {
        return wire < 0 || wire >= table.rows ? NONE : table.observe(wire, bit & 1);
    }

    public int row(int i, int what) {
        if (i < 0 || i >= table.rows) {
            return NONE;
        }
        table.straighten();
        switch (what) {
            case 0: return table.xs[i];
            case 1: return table.zs[i];
            case 2: return table.signs[i];
            default: return NONE;
        }
    }

    public int equal(int c, int d) {
        if (!bank.has(c) || !bank.has(d) || bank.widths[c] != bank.widths[d] || bank.widths[c] > 5) {
            return NONE;
        }
        if (!bank.isGates(c) || !bank.isGates(d)) {
            return NONE;
        }
        int powers = 255;
        for (int start = 0; start < 1 << bank.widths[c]; start++) {
            fillColumn(left, c, start);
            fillColumn(right, d, start);
            powers = left.powersOver(right, powers);
            if (powers == 0) {
                sameTold = -1 - start;
                return 0;
            }
        }
        sameTold = Bank.lowest(powers);
        return 1;
    }

    private void fillColumn(Roots roots, int c, int start) {
        roots.setOne(1 << bank.widths[c], start);
        for (int i = 0; i < bank.sizes[c]; i++) {
            roots.apply(bank.opAt(c, i), 0, false);
        }
        roots.lower();
    }

    public int same() {
        return sameTold;
    }

    public int diagram(int c) {
        if (!bank.has(c) || bank.widths[c] > 4 || web.countSpiders(bank, c) > Web.MOST) {
            return NONE;
        }
        web.draw(bank, c);
        return web.made;
    }

    public int spider(int i, int what) {
        if (!web.isThere(i)) {
            return NONE;
        }
        if (what == 0) {
            return web.phases[i];
        }
        if (what == 1) {
            return Long.bitCount(web.plain[i] | web.turned[i]);
        }
        return what >= 100 && what < 100 + Web.MOST ? web.edgeKind(i, what - 100) : NONE;
    }

    public boolean rewrite(int rule, int a, int b) {
        return web.doRule(rule, a, b);
    }

    public int reduce() {
        if (web.made == 0) {
            return NONE;
        }
        int rules = 0;
        while (rules < Web.MOST && web.doFirstRule()) {
            rules++;
        }
        return rules;
    }

    public long meaning(int input, int output, int part) throws NoSuchElementException, IllegalStateException {
        int starts = 1 << web.wires;
        if (web.made == 0 || input < 0 || input >= starts || output < 0 || output >= starts || part < 0 || part > 4) {
            throw new NoSuchElementException("no such MEANING");
        }
        if (web.countInner() > 12) {
            throw new IllegalStateException("more than 12 SPIDERS");
        }
        web.sumUp(input, output);
        return Roots.rootPart(web.meant[0], web.meant[1], web.meant[2], web.meant[3], 0, part);
    }

    public int code() throws IllegalArgumentException {
        int length = typed;
        typed = 0;
        guard.read(tape, length);
        faultKind = guard.faultKind;
        faultPlace = guard.faultPlace;
        if (faultKind != 0) {
            throw new IllegalArgumentException("the TAPE has a FAULT");
        }
        return guard.n - guard.rows;
    }

    public int codes(int what) {
        if (guard.n == 0 || what < 0) {
            return NONE;
        }
        if (what < 2) {
            return what == 0 ? guard.n : guard.rows;
        }
        guard.countAll();
        if (what == 2) {
            return guard.distance();
        }
        if (what >= 400) {
            return what - 400 < 1 << guard.rows ? guard.corrections[what - 400] : NONE;
        }
        int kind = what / 100;
        int weight = what % 100;
        if (kind < 1 || weight > 8) {
            return NONE;
        }
        return kind == 1 ? guard.groupBy[weight] : kind == 2 ? guard.centreBy[weight] : guard.missedBy[weight];
    }

    public int pauli(int number, int what) {
        if (guard.n == 0 || number < 0 || number >= 1 << 2 * guard.n) {
            return NONE;
        }
        switch (what) {
            case 0: return guard.syndromeOf(number);
            case 1: return guard.restOf(number) == 0 ? 2 : guard.syndromeOf(number) == 0 ? 1 : 0;
            case 2: return guard.weightOf(number);
            default: return NONE;
        }
    }

    public int form(int c) {
        if (!bank.has(c) || bank.widths[c] != 1 || !bank.isGates(c)) {
            return NONE;
        }
        cliffords.findForm(bank, c);
        return cliffords.letterCount;
    }

    public int letter(int k) {
        if (k == NONE && cliffords.letterCount >= 0) {
            return cliffords.tCount;
        }
        return k >= 0 && k < cliffords.letterCount ? cliffords.letters[k] : NONE;
    }

    public int least(int permutation) {
        int inverse = Search.inverseOf(permutation);
        if (inverse == NONE || bank.count >= MOST_CIRCUITS) {
            return NONE;
        }
        bank.startDraft();
        search.putLeast(bank, inverse);
        return bank.keep(3);
    }

    public boolean link(int a, int b, boolean is) {
        if (a < 0 || a > 5 || b < 0 || b > 5 || a == b) {
            return false;
        }
        search.setLink(a, b, is);
        return true;
    }

    public int route(int c) {
        if (!bank.has(c) || bank.count >= MOST_CIRCUITS || !search.canRoute(bank, c)) {
            return NONE;
        }
        int swaps = search.findWay(bank, c);
        if (swaps == NONE) {
            return NONE;
        }
        bank.startDraft();
        search.putWay(bank, c, swaps);
        int number = bank.keep(6);
        if (number != NONE) {
            search.swapsTold = swaps;
        }
        return number;
    }

    public int game(long rules) {
        int best = NONE;
        for (int answers = 0; answers < 256; answers++) {
            int won = countWon(rules, answers >> 4, answers & 15);
            if (won > best) {
                best = won;
                playedTold = answers;
            }
        }
        return best;
    }

    private static int countWon(long rules, int first, int second) {
        int won = 0;
        for (int s = 0; s < 4; s++) {
            for (int t = 0; t < 4; t++) {
                int place = 16 * s + 4 * t + 2 * (first >> s & 1) + (second >> t & 1);
                won += (int) (rules >>> place) & 1;
            }
        }
        return won;
    }

    public int played() {
        return playedTold;
    }

    public int faulty(int c, int i, int xs, int zs, int what) {
        if (!bank.has(c) || i < 0 || i > bank.sizes[c] || what < 0 || what > 2) {
            return NONE;
        }
        if (((xs | zs) >>> bank.widths[c]) != 0 || !canCarry(c)) {
            return NONE;
        }
        carried.setRow(0, xs, zs);
        int others = 0;
        for (int at = i; at < bank.sizes[c]; at++) {
            others = carryThrough(bank.opAt(c, at), others);
        }
        return what == 0 ? carried.xs[0] : what == 1 ? carried.zs[0] : others;
    }

    private boolean canCarry(int c) {
        for (int i = 0; i < bank.sizes[c]; i++) {
            int op = bank.opAt(c, i);
            if (Bank.asks(op) || Bank.kindOf(op) < M && !Bank.isClifford(op)) {
                return false;
            }
        }
        return true;
    }

    /** Takes the carried PAULI through one OP; answers the BITS that are other ones behind it. */
    private int carryThrough(int op, int others) {
        int kind = Bank.kindOf(op);
        if (kind < M) {
            carried.turnByOp(op);
            return others;
        }
        int wire = 1 << Bank.wireOf(op);
        boolean flipped = (carried.xs[0] & wire) != 0;
        carried.zs[0] &= ~wire;
        if (kind == R) {
            carried.xs[0] &= ~wire;
            return others;
        }
        int bit = 1 << Bank.secondOf(op);
        return flipped ? others | bit : others & ~bit;
    }

    public int sum(int how) {
        return sums.change(how) ? sums.sizes[Sums.A] : NONE;
    }

    public int term(int xs, int zs, int p, int q) {
        if (xs < 0 || xs > 255 || zs < 0 || zs > 255 || !Sums.fits(p) || !Sums.fits(q)) {
            return NONE;
        }
        return sums.addTerm(xs, zs, p, q) ? sums.sizes[Sums.A] : NONE;
    }

    public int ladder(int j, boolean up) {
        return j >= 0 && j < 8 && sums.timesLadder(j, up) ? sums.sizes[Sums.A] : NONE;
    }

    public int told(int i, int what) throws NoSuchElementException {
        if (i < 0 || i >= sums.sizes[Sums.A] || what < 0 || what > 4) {
            throw new NoSuchElementException("no such TERM");
        }
        switch (what) {
            case 0: return sums.keys[Sums.A][i] >> 8;
            case 1: return sums.keys[Sums.A][i] & 255;
            case 2: return sums.reals[Sums.A][i];
            case 3: return sums.imaginaries[Sums.A][i];
            default: return sums.halves[Sums.A];
        }
    }

    public boolean commutes() {
        return sums.allCommute();
    }

    public boolean density(int wires, int start) {
        if (wires < 1 || wires > 3 || start < 0 || start >= 1 << wires) {
            return false;
        }
        blur.start(wires, start);
        return true;
    }

    public boolean mix(int c, int i) {
        if (blur.wires == 0 || !bank.hasOp(c, i) || bank.widths[c] != blur.wires) {
            return false;
        }
        int op = bank.opAt(c, i);
        return !Bank.asks(op) && blur.perform(op);
    }

    public boolean spoil(int wire, int by, int k) {
        if (wire < 0 || wire >= blur.wires || by < 0 || by > 3 || k < 1 || k > 16) {
            return false;
        }
        return blur.spoilWire(1 << wire, by, k);
    }

    public long entry(int i, int j, int part) throws NoSuchElementException {
        int starts = 1 << blur.wires;
        if (blur.wires == 0 || i < 0 || i >= starts || j < 0 || j >= starts || part < 0 || part > 4) {
            throw new NoSuchElementException("no such D(i, j)");
        }
        return blur.roots.partAt(i + starts * j, part);
    }

    public long purity(int part) throws NoSuchElementException, ArithmeticException {
        if (blur.wires == 0 || part < 0 || part > 2) {
            throw new NoSuchElementException("no such PURITY");
        }
        if (blur.greatestPower() > 50) {
            throw new ArithmeticException("a k above 50");
        }
        return blur.purityPart(part);
    }

    public int turn(int c, int xs, int zs, int e) {
        if (!bank.has(c) || e < 0 || e > 7 || (xs | zs) == 0 || ((xs | zs) >>> bank.widths[c]) != 0) {
            return NONE;
        }
        bank.startDraft();
        bank.putAll(c, 0);
        bank.putTurn(xs, zs, e);
        return bank.keep(bank.widths[c]);
    }

    public int kin(int n, int graph, int what) {
        if (n < 2 || n > 6 || graph < 0 || graph >= 1 << n * (n - 1) / 2 || what < 0 || what > 2) {
            return NONE;
        }
        int count = search.findKin(n, graph);
        return what == 0 ? count : what == 1 ? search.leastKin() : search.fewestPairs();
    }

    public boolean tensor(int i, int legs) {
        if (i < 0 || i > 8 || legs < 0 || legs > 65535) {
            return false;
        }
        search.legs[i] = legs;
        return true;
    }

    public int cost(int n) {
        return n < 1 || n > 9 ? NONE : search.leastCost(n);
    }

    public int total(int what) {
        switch (what) {
            case 0: return bank.count;
            case 1: return typed;
            case 2: return table.rows;
            case 3: return web.made == 0 ? 0 : Long.bitCount(web.there);
            case 4: return Integer.bitCount(search.links);
            case 5: return search.swapsTold;
            case 6: return sums.sizes[Sums.A];
            case 7: return sums.sizes[Sums.B];
            default: return NONE;
        }
    }

    /**
     * Reads a TEXT in one pass: OPS are laid out as the text goes by, so that a turn is a row said again
     * and a USE a row with other WIRES, and nothing has to go down into a tree.
     */
    private static final class Reader {
        static final int DEEPEST = 8;
        /** Stands in a prefix for - ; the CONTROLS are below it. */
        static final int BACK = 1 << 16;

        final int[] ops = new int[MOST_OPS];
        final int[] routineOps = new int[4 * MOST_OPS];
        final int[] routineSizes = new int[4];
        final int[] routineWidths = new int[4];
        final int[] blocks = new int[DEEPEST];
        final int[] named = new int[4];
        char[] text;
        int length;
        int next;
        int place;
        int width;
        int frame;
        /** MOST_OPS + 1 stands for any number above MOST_OPS. */
        int size;
        int depth;
        int asked;
        int routine;
        boolean ahead;
        int prefix;
        int seen;
        /** 8 * its place + its kind, so that of two the lesser one is told. */
        int fault;

        void read(char[] tape, int count) {
            startOver(tape, count);
            boolean whole = readWidth();
            for (int i = 0; i < MOST_TAPE && whole && peek() != 0; i++) {
                whole = readStatement(take());
            }
            if (whole && depth > 0) {
                place = length;
                broken();
            }
            if (fault == 0 && (size > MOST_OPS || Bank.hsIn(ops, 0, size) > MOST_HS)) {
                fault = 5;
            }
        }

        private void startOver(char[] tape, int count) {
            text = tape;
            length = count;
            next = 0;
            size = 0;
            depth = 0;
            asked = 0;
            routine = NONE;
            ahead = false;
            fault = 0;
            Arrays.fill(routineWidths, 0);
        }

        /** The next character that counts; 0 behind the last one. */
        private char take() {
            while (next < length && text[next] == ' ') {
                next++;
            }
            place = next;
            if (next >= length) {
                return 0;
            }
            next++;
            return text[place];
        }

        private char peek() {
            int i = next;
            while (i < length && text[i] == ' ') {
                i++;
            }
            return i < length ? text[i] : 0;
        }

        /** With the character that was just taken it is no TEXT, whatever was found ahead of it. */
        private boolean broken() {
            fault = 8 * place + 1;
            return false;
        }

        private void note(int kind, int where) {
            int found = 8 * where + kind;
            fault = fault == 0 ? found : Math.min(fault, found);
        }

        private static boolean isDigit(char c) {
            return c >= '0' && c <= '9';
        }

        private boolean readWidth() {
            char c = take();
            if (c < '1' || c > '8') {
                return broken();
            }
            width = c - '0';
            frame = width;
            return take() == ':' || broken();
        }

        private boolean readStatement(char first) {
            boolean noGate = first == '?' || first == '!' || first == 'm' || first == 'r';
            if (noGate && routine != NONE) {
                return broken();
            }
            if (first == ']') {
                return closeBlock();
            }
            if (first == '*' || first == '?' || first == '!') {
                return openBlock(first);
            }
            if (noGate) {
                return readMeasured(first == 'm');
            }
            char c = readPrefix(first);
            if (c == '@') {
                return readRoutineOrUse();
            }
            int kind = c == 'w' ? W : "xyzhst".indexOf(c);
            return kind >= 0 ? readTargets(kind) : broken();
        }

        private boolean openBlock(char sign) {
            ahead = ahead || routine == NONE;
            char c = take();
            boolean fits = sign == '*' ? c >= '1' && c <= '9' : c >= '0' && c <= '3';
            if (!fits || take() != '[' || depth >= DEEPEST) {
                return broken();
            }
            push(sign == '*' ? c - '0' : 1);
            if (sign != '*') {
                asked |= (sign == '?' ? 1 : 16) << c - '0';
            }
            return true;
        }

        /** A block said 0 times is a ROUTINE. */
        private void push(int times) {
            if (depth < DEEPEST) {
                blocks[depth] = times | asked << 4 | size << 12;
                depth++;
            }
        }

        private boolean closeBlock() {
            if (depth == 0) {
                return broken();
            }
            depth--;
            int times = blocks[depth] & 15;
            asked = blocks[depth] >> 4 & 255;
            if (times == 0) {
                closeRoutine();
            } else {
                repeat(blocks[depth] >> 12, times);
            }
            return true;
        }

        private void repeat(int from, int times) {
            int once = size - from;
            if (size > MOST_OPS || from + once * times > MOST_OPS) {
                size = MOST_OPS + 1;
                return;
            }
            for (int i = size; i < from + once * times; i++) {
                ops[i] = ops[i - once];
            }
            size = from + once * times;
        }

        private void closeRoutine() {
            if (routine != NONE && routineWidths[routine] == 0) {
                routineWidths[routine] = frame;
                routineSizes[routine] = size;
                System.arraycopy(ops, 0, routineOps, routine * MOST_OPS, Math.min(size, MOST_OPS));
            }
            routine = NONE;
            frame = width;
            size = 0;
        }

        private boolean readMeasured(boolean intoBit) {
            ahead = true;
            seen = 0;
            char wire = take();
            if (!isDigit(wire)) {
                return broken();
            }
            tellWire(wire);
            char bit = intoBit ? take() : '0';
            if (bit < '0' || bit > '3' || take() != ';') {
                return broken();
            }
            append(Bank.pack(intoBit ? M : R, wire - '0', bit - '0', 0));
            return true;
        }

        /** Looks at a WIRE that was just taken; answers it as a set. */
        private int tellWire(char digit) {
            int wire = digit - '0';
            if (wire >= frame) {
                note(2, place);
            } else if ((seen >> wire & 1) != 0) {
                note(3, place);
            }
            seen |= 1 << wire;
            return 1 << wire;
        }

        /** Takes CONTROLS and - ; answers the character behind them, 0 where it can be none. */
        private char readPrefix(char first) {
            char c = first;
            seen = 0;
            prefix = 0;
            for (int i = 0; i < MOST_TAPE && isDigit(c); i++) {
                prefix |= tellWire(c);
                if (take() != '>') {
                    return 0;
                }
                c = take();
            }
            if (c == '-') {
                prefix |= BACK;
                c = take();
            }
            return c;
        }

        private boolean readTargets(int kind) {
            ahead = ahead || routine == NONE;
            char wire = take();
            if (!isDigit(wire)) {
                return broken();
            }
            tellWire(wire);
            char second = '0';
            if (kind == W) {
                second = take();
                if (!isDigit(second)) {
                    return broken();
                }
                tellWire(second);
            }
            if (take() != ';') {
                return broken();
            }
            int told = prefix >= BACK ? Bank.inverseKind(kind) : kind;
            append(Bank.pack(told, wire - '0', second - '0', prefix));
            return true;
        }

        private boolean readRoutineOrUse() {
            int sign = place;
            int name = "abcd".indexOf(take());
            if (name < 0) {
                return broken();
            }
            char digit = take();
            if (!isDigit(digit)) {
                return broken();
            }
            if (peek() != '[') {
                return readUse(name, sign, digit) && layUse(name);
            }
            take();
            if (prefix != 0 || routine != NONE || ahead || digit < '1' || digit > '4') {
                return broken();
            }
            if (routineWidths[name] != 0) {
                note(4, sign);
            }
            push(0);
            routine = name;
            frame = digit - '0';
            return true;
        }

        private boolean readUse(int name, int sign, char first) {
            ahead = ahead || routine == NONE;
            int want = routineWidths[name];
            if (want == 0) {
                note(4, sign);
            }
            int most = want == 0 ? 4 : want;
            tellWire(first);
            named[0] = first - '0';
            char c = take();
            int count = 1;
            while (count < most && isDigit(c)) {
                tellWire(c);
                named[count] = c - '0';
                count++;
                c = take();
            }
            return c == ';' && (want == 0 || count == want) || broken();
        }

        private boolean layUse(int name) {
            int count = routineSizes[name];
            if (fault != 0) {
                return true;
            }
            if (count > MOST_OPS) {
                size = MOST_OPS + 1;
                return true;
            }
            boolean back = prefix >= BACK;
            for (int i = 0; i < count; i++) {
                int op = routineOps[name * MOST_OPS + (back ? count - 1 - i : i)];
                append(renamed(back ? Bank.inverse(op) : op));
            }
            return true;
        }

        private int renamed(int op) {
            int controls = prefix;
            for (int i = 0; i < 4; i++) {
                controls |= (Bank.controlsOf(op) >> i & 1) << named[i];
            }
            int second = Bank.kindOf(op) == W ? named[Bank.secondOf(op) & 3] : 0;
            return Bank.pack(Bank.kindOf(op), named[Bank.wireOf(op) & 3], second, controls);
        }

        /** Behind a FAULT nothing is laid out: its WIRES may be none. */
        private void append(int op) {
            if (fault != 0 || size > MOST_OPS) {
                return;
            }
            if (size < MOST_OPS) {
                ops[size] = op | asked << 18;
            }
            size++;
        }
    }

    /** The circuits, each a row of OPS that are packed into one number, and a draft of the next one. */
    private static final class Bank {
        static final String LETTERS = "xyzhststwmr";

        final int[] rows = new int[MOST_CIRCUITS * MOST_OPS];
        final int[] sizes = new int[MOST_CIRCUITS];
        final int[] widths = new int[MOST_CIRCUITS];
        final int[] draft = new int[MOST_OPS];
        final char[] spelled = new char[64];
        final int[] parities = new int[8];
        final int[] eighthsOf = new int[256];
        int count = 0;
        int drafted = 0;
        int reversed = 0;

        static int pack(int kind, int wire, int second, int controls) {
            return kind | (wire & 7) << 4 | (second & 7) << 7 | (controls & 255) << 10;
        }

        static int kindOf(int op) {
            return op & 15;
        }

        static int wireOf(int op) {
            return op >> 4 & 7;
        }

        static int secondOf(int op) {
            return op >> 7 & 7;
        }

        static int controlsOf(int op) {
            return op >> 10 & 255;
        }

        static int onesOf(int op) {
            return op >> 18 & 15;
        }

        static int zerosOf(int op) {
            return op >> 22 & 15;
        }

        static boolean asks(int op) {
            return op >> 18 != 0;
        }

        static int wiresOf(int op) {
            int second = kindOf(op) == W ? 1 << secondOf(op) : 0;
            return 1 << wireOf(op) | second | controlsOf(op);
        }

        /** The number of the lowest 1; 32 without any. */
        static int lowest(int set) {
            return Integer.bitCount((set & -set) - 1);
        }

        static int inverseKind(int kind) {
            switch (kind) {
                case S: return BACK_S;
                case T: return BACK_T;
                case BACK_S: return S;
                case BACK_T: return T;
                default: return kind;
            }
        }

        static int inverse(int op) {
            return op & ~15 | inverseKind(kindOf(op));
        }

        static int hsIn(int[] ops, int from, int to) {
            int hs = 0;
            for (int i = from; i < to && i < ops.length; i++) {
                hs += kindOf(ops[i]) == H ? 1 : 0;
            }
            return hs;
        }

        /** Whether an OP takes each PAULI to a PAULI and is one of those that the document names for that. */
        static boolean isClifford(int op) {
            int kind = kindOf(op);
            int controls = Integer.bitCount(controlsOf(op));
            return controls == 0 ? kind <= S || kind == BACK_S || kind == W : controls == 1 && kind <= Z;
        }

        boolean has(int c) {
            return c >= 0 && c < count;
        }

        boolean hasOp(int c, int i) {
            return has(c) && i >= 0 && i < sizes[c];
        }

        int opAt(int c, int i) {
            return hasOp(c, i) ? rows[c * MOST_OPS + i] : 0;
        }

        int countHs(int c) {
            return hsIn(rows, c * MOST_OPS, c * MOST_OPS + sizes[c]);
        }

        /** Whether a circuit has neither m nor r nor BITS. */
        boolean isGates(int c) {
            for (int i = 0; i < sizes[c]; i++) {
                int op = opAt(c, i);
                if (asks(op) || kindOf(op) >= M) {
                    return false;
                }
            }
            return true;
        }

        void startDraft() {
            drafted = 0;
        }

        void put(int op) {
            if (drafted < MOST_OPS) {
                draft[drafted] = op;
            }
            drafted++;
        }

        /** The draft becomes a circuit, unless it is too long or there are too many. */
        int keep(int width) {
            if (count >= MOST_CIRCUITS || drafted > MOST_OPS || hsIn(draft, 0, drafted) > MOST_HS) {
                return NONE;
            }
            System.arraycopy(draft, 0, rows, count * MOST_OPS, drafted);
            sizes[count] = drafted;
            widths[count] = width;
            count++;
            return count - 1;
        }

        void putAll(int c, int moreControls) {
            for (int i = 0; i < sizes[c]; i++) {
                put(opAt(c, i) | moreControls << 10);
            }
        }

        void putInverse(int c) {
            for (int i = sizes[c] - 1; i >= 0; i--) {
                put(inverse(opAt(c, i)));
            }
        }

        int spelledLength(int c) {
            int length = 2;
            for (int i = 0; i < sizes[c]; i++) {
                length += spell(opAt(c, i));
            }
            return length;
        }

        int spelledAt(int c, int k) {
            if (k < 2) {
                return k < 0 ? NONE : k == 0 ? '0' + widths[c] : ':';
            }
            int left = k - 2;
            for (int i = 0; i < sizes[c]; i++) {
                int length = spell(opAt(c, i));
                if (left < length) {
                    return spelled[left];
                }
                left -= length;
            }
            return NONE;
        }

        /** Writes one OP into spelled; its length. */
        private int spell(int op) {
            int n = 0;
            for (int i = 0; i < 4; i++) {
                n = (onesOf(op) >> i & 1) != 0 ? spellAsked(n, '?', i) : n;
                n = (zerosOf(op) >> i & 1) != 0 ? spellAsked(n, '!', i) : n;
            }
            int closing = n / 3;
            for (int i = 0; i < 8; i++) {
                if ((controlsOf(op) >> i & 1) != 0) {
                    n = spellOne(spellOne(n, (char) ('0' + i)), '>');
                }
            }
            int kind = kindOf(op);
            n = kind == BACK_S || kind == BACK_T ? spellOne(n, '-') : n;
            n = spellOne(n, LETTERS.charAt(kind <= R ? kind : R));
            n = spellOne(n, (char) ('0' + wireOf(op)));
            n = kind == W || kind == M ? spellOne(n, (char) ('0' + secondOf(op))) : n;
            n = spellOne(n, ';');
            for (int i = 0; i < closing; i++) {
                n = spellOne(n, ']');
            }
            return n;
        }

        private int spellAsked(int n, char sign, int bit) {
            return spellOne(spellOne(spellOne(n, sign), (char) ('0' + bit)), '[');
        }

        private int spellOne(int n, char c) {
            if (n < spelled.length) {
                spelled[n] = c;
            }
            return n + 1;
        }

        void putEighths(int wire, int eighths) {
            int e = eighths & 7;
            if (e == 3 || e == 5) {
                put(pack(e == 3 ? S : Z, wire, 0, 0));
                put(pack(T, wire, 0, 0));
            } else if (e != 0) {
                put(pack(KIND_OF_EIGHTHS[e], wire, 0, 0));
            }
        }

        void putTurn(int xs, int zs, int e) {
            int set = xs | zs;
            for (int i = 0; i < 8; i++) {
                if ((xs >> i & 1) != 0) {
                    putIf((zs >> i & 1) != 0, pack(BACK_S, i, 0, 0));
                    put(pack(H, i, 0, 0));
                }
            }
            int last = lowest(set);
            for (int i = last + 1; i < 8; i++) {
                if ((set >> i & 1) != 0) {
                    put(pack(X, i, 0, 1 << last));
                    last = i;
                }
            }
            putEighths(last, e);
            for (int i = last - 1; i >= 0; i--) {
                if ((set >> i & 1) != 0) {
                    put(pack(X, last, 0, 1 << i));
                    last = i;
                }
            }
            for (int i = 0; i < 8; i++) {
                if ((xs >> i & 1) != 0) {
                    put(pack(H, i, 0, 0));
                    putIf((zs >> i & 1) != 0, pack(S, i, 0, 0));
                }
            }
        }

        private void putIf(boolean is, int op) {
            if (is) {
                put(op);
            }
        }

        /** False if the circuit has an OP that can't be MERGED. */
        boolean putMerged(int c) {
            Arrays.fill(eighthsOf, 0);
            startParities();
            for (int i = 0; i < sizes[c]; i++) {
                int op = opAt(c, i);
                int kind = kindOf(op);
                boolean steps = kind == W || kind == X;
                if (Integer.bitCount(controlsOf(op)) > (kind == X ? 1 : 0) || !steps && EIGHTHS[kind] == 0) {
                    return false;
                }
                if (steps) {
                    stepParities(op);
                } else {
                    eighthsOf[parities[wireOf(op)]] += seenFrom(wireOf(op), EIGHTHS[kind]);
                }
            }
            startParities();
            for (int i = 0; i < sizes[c]; i++) {
                putMergedOp(opAt(c, i));
            }
            return true;
        }

        private void putMergedOp(int op) {
            if (kindOf(op) == W || kindOf(op) == X) {
                put(op);
                stepParities(op);
                return;
            }
            int wire = wireOf(op);
            putEighths(wire, seenFrom(wire, eighthsOf[parities[wire]] & 7));
            eighthsOf[parities[wire]] = 0;
        }

        private void startParities() {
            reversed = 0;
            for (int i = 0; i < parities.length; i++) {
                parities[i] = 1 << i;
            }
        }

        private int seenFrom(int wire, int eighths) {
            return (reversed >> wire & 1) != 0 ? 8 - eighths : eighths;
        }

        private void stepParities(int op) {
            int wire = wireOf(op);
            if (kindOf(op) == W) {
                int second = secondOf(op);
                int parity = parities[wire];
                parities[wire] = parities[second];
                parities[second] = parity;
                boolean differ = ((reversed >> wire ^ reversed >> second) & 1) != 0;
                reversed ^= differ ? 1 << wire | 1 << second : 0;
            } else if (controlsOf(op) == 0) {
                reversed ^= 1 << wire;
            } else {
                int control = lowest(controlsOf(op)) & 7;
                parities[wire] ^= parities[control];
                reversed ^= (reversed >> control & 1) << wire;
            }
        }

        void putCancelled(int c) {
            putAll(c, 0);
            int passes = 0;
            while (passes <= MOST_OPS && cancelFirst()) {
                passes++;
            }
        }

        private boolean cancelFirst() {
            for (int i = 0; i < drafted; i++) {
                int wires = wiresOf(draft[i]);
                for (int j = i + 1; j < drafted; j++) {
                    int together = together(draft[i], draft[j]);
                    if (together >= 0) {
                        becomeOne(i, j, together);
                        return true;
                    }
                    if ((wiresOf(draft[j]) & wires) != 0) {
                        break;
                    }
                }
            }
            return false;
        }

        /** What two OPS are together: eighths 0 (both go), 1, 2, 4, 6, 7; NONE if they stay. */
        private static int together(int a, int b) {
            int kind = kindOf(a);
            if (controlsOf(a) != controlsOf(b)) {
                return NONE;
            }
            if (kind == W) {
                return kindOf(b) == W && wiresOf(a) == wiresOf(b) ? 0 : NONE;
            }
            if (kindOf(b) == W || wireOf(a) != wireOf(b)) {
                return NONE;
            }
            if (kind <= H && kind == kindOf(b)) {
                return 0;
            }
            if (EIGHTHS[kind] == 0 || EIGHTHS[kindOf(b)] == 0) {
                return NONE;
            }
            int sum = EIGHTHS[kind] + EIGHTHS[kindOf(b)] & 7;
            return sum == 0 || KIND_OF_EIGHTHS[sum] != NONE ? sum : NONE;
        }

        private void becomeOne(int i, int j, int together) {
            if (together != 0) {
                draft[i] = draft[i] & ~15 | KIND_OF_EIGHTHS[together];
            }
            removeDrafted(j);
            if (together == 0) {
                removeDrafted(i);
            }
        }

        private void removeDrafted(int at) {
            drafted--;
            for (int i = at; i < drafted; i++) {
                draft[i] = draft[i + 1];
            }
        }
    }

    /** A row of ROOTS, four whole numbers each, all over r^power; so gates stay sums and differences. */
    private static final class Roots {
        final long[] parts;
        final long[] sum = new long[4];
        int size = 1;
        int power = 0;

        Roots(int most) {
            parts = new long[4 * most];
        }

        static long rootPart(long a, long b, long c, long d, int k, int part) {
            int power = (a | b | c | d) == 0 ? 0 : k;
            while (power > 0 && (a - c & 1) == 0 && (b - d & 1) == 0) {
                long sum = a + c >> 1;
                long difference = c - a >> 1;
                a = b - d >> 1;
                c = b + d >> 1;
                b = sum;
                d = difference;
                power--;
            }
            switch (part) {
                case 0: return a;
                case 1: return b;
                case 2: return c;
                case 3: return d;
                default: return power;
            }
        }

        static long realPart(long u, long v, int k, int part) {
            int halves = (u | v) == 0 ? 0 : k;
            while (halves > 0 && ((u | v) & 1) == 0) {
                u >>= 1;
                v >>= 1;
                halves--;
            }
            return part == 0 ? u : part == 1 ? v : halves;
        }

        void setOne(int count, int at) {
            size = count;
            power = 0;
            Arrays.fill(parts, 0);
            parts[4 * at] = 1;
        }

        long partAt(int i, int part) {
            return rootPart(parts[4 * i], parts[4 * i + 1], parts[4 * i + 2], parts[4 * i + 3], power, part);
        }

        boolean isZero(int i) {
            return (parts[4 * i] | parts[4 * i + 1] | parts[4 * i + 2] | parts[4 * i + 3]) == 0;
        }

        int countNotZero() {
            int count = 0;
            for (int i = 0; i < size; i++) {
                count += isZero(i) ? 0 : 1;
            }
            return count;
        }

        /** Does a gate on WIRES that stand shift further up; mirrored: its matrix's conjugate. */
        void apply(int op, int shift, boolean mirrored) {
            int bit = 1 << Bank.wireOf(op) + shift;
            int need = Bank.controlsOf(op) << shift;
            int kind = Bank.kindOf(op);
            switch (kind) {
                case X:
                    exchange(bit | need, need, bit);
                    break;
                case Y:
                    exchange(bit | need, need, bit);
                    rotate(bit | need, need, mirrored ? 2 : 6);
                    rotate(bit | need, bit | need, mirrored ? 6 : 2);
                    break;
                case H:
                    blend(bit, need);
                    break;
                case W:
                    int other = 1 << Bank.secondOf(op) + shift;
                    exchange(bit | other | need, bit | need, bit | other);
                    break;
                default:
                    int eighths = kind <= BACK_T ? EIGHTHS[kind] : 0;
                    rotate(bit | need, bit | need, mirrored ? 8 - eighths & 7 : eighths);
                    break;
            }
        }

        private void exchange(int mask, int value, int change) {
            for (int i = 0; i < size; i++) {
                if ((i & mask) == value) {
                    swap(4 * i, 4 * (i ^ change));
                }
            }
        }

        private void swap(int i, int j) {
            for (int part = 0; part < 4; part++) {
                long kept = parts[i + part];
                parts[i + part] = parts[j + part];
                parts[j + part] = kept;
            }
        }

        private void rotate(int mask, int value, int eighths) {
            for (int i = 0; i < size; i++) {
                if ((i & mask) == value) {
                    rotateOne(4 * i, eighths);
                }
            }
        }

        private void rotateOne(int at, int eighths) {
            for (int i = 0; i < (eighths & 3); i++) {
                long last = parts[at + 3];
                parts[at + 3] = parts[at + 2];
                parts[at + 2] = parts[at + 1];
                parts[at + 1] = parts[at];
                parts[at] = -last;
            }
            if (eighths >= 4) {
                for (int part = 0; part < 4; part++) {
                    parts[at + part] = -parts[at + part];
                }
            }
        }

        /** h: the power grows for all, so the ROOTS without its CONTROLS are taken r times. */
        private void blend(int bit, int need) {
            power++;
            for (int i = 0; i < size; i++) {
                if ((i & need) != need) {
                    timesRoot(4 * i);
                } else if ((i & bit) == 0) {
                    for (int part = 0; part < 4; part++) {
                        long low = parts[4 * i + part];
                        long high = parts[4 * (i | bit) + part];
                        parts[4 * i + part] = low + high;
                        parts[4 * (i | bit) + part] = low - high;
                    }
                }
            }
        }

        private void timesRoot(int at) {
            long a = parts[at];
            long b = parts[at + 1];
            long c = parts[at + 2];
            long d = parts[at + 3];
            parts[at] = b - d;
            parts[at + 1] = a + c;
            parts[at + 2] = b + d;
            parts[at + 3] = c - a;
        }

        /** Brings the power down as far as it goes for all, so that equal rows have equal numbers. */
        void lower() {
            while (power > 0 && canLower()) {
                power--;
                for (int i = 0; i < 4 * size; i += 4) {
                    timesRoot(i);
                }
                for (int i = 0; i < 4 * size; i++) {
                    parts[i] >>= 1;
                }
            }
        }

        private boolean canLower() {
            for (int i = 0; i < 4 * size; i += 4) {
                if (((parts[i] ^ parts[i + 2] | parts[i + 1] ^ parts[i + 3]) & 1) != 0) {
                    return false;
                }
            }
            return true;
        }

        /** Those of the powers of w by which the other row becomes this one (both lowered). */
        int powersOver(Roots other, int among) {
            int powers = 0;
            for (int e = 0; e < 8 && power == other.power; e++) {
                if ((among >> e & 1) != 0 && isTurned(other, e)) {
                    powers |= 1 << e;
                }
            }
            return powers;
        }

        private boolean isTurned(Roots other, int eighths) {
            for (int i = 0; i < 4 * size; i++) {
                int to = (i & 3) + eighths & 7;
                long due = other.parts[i];
                if (parts[i & ~3 | to & 3] != (to < 4 ? due : -due)) {
                    return false;
                }
            }
            return true;
        }

        boolean hasAny(int mask, int value) {
            for (int i = 0; i < size; i++) {
                if ((i & mask) == value && !isZero(i)) {
                    return true;
                }
            }
            return false;
        }

        void wipe(int mask, int value) {
            for (int i = 0; i < size; i++) {
                if ((i & mask) == value) {
                    wipeOne(i);
                }
            }
        }

        void wipeOne(int i) {
            for (int part = 0; part < 4; part++) {
                parts[4 * i + part] = 0;
            }
        }

        long weightPart(int mask, int value, int part) {
            clearSum();
            for (int i = 0; i < size; i++) {
                if ((i & mask) == value) {
                    addProduct(i, i, 0, true);
                }
            }
            return realPart(sum[0], sum[1], power, part);
        }

        void clearSum() {
            Arrays.fill(sum, 0);
        }

        /** Adds w^eighths * (ROOT i, or its conjugate if mirrored) * ROOT j to the sum. */
        void addProduct(int i, int j, int eighths, boolean mirrored) {
            long a = parts[4 * i];
            long b = mirrored ? -parts[4 * i + 3] : parts[4 * i + 1];
            long c = mirrored ? -parts[4 * i + 2] : parts[4 * i + 2];
            long d = mirrored ? -parts[4 * i + 1] : parts[4 * i + 3];
            for (int part = 0; part < 4; part++) {
                long p = parts[4 * j + part];
                addTo(part + eighths, a * p);
                addTo(part + eighths + 1, b * p);
                addTo(part + eighths + 2, c * p);
                addTo(part + eighths + 3, d * p);
            }
        }

        private void addTo(int eighths, long value) {
            sum[eighths & 3] += (eighths & 4) == 0 ? value : -value;
        }
    }

    /** The RUN: its STATE, BITS and tape, and what was found of THE GROUP since the last OP. */
    private static final class Play {
        final Roots roots = new Roots(256);
        final int[] groupRows = new int[16];
        final int[] groupSigns = new int[16];
        final int[] quarters = new int[256];
        final int[] kinds = new int[256];
        int circuit = NONE;
        int wires = 0;
        int done = 0;
        int taken = 0;
        int bits = 0;
        int groupSize = NONE;
        long tapeBits = 0;

        void start(int c, int width, int at, long tape) {
            circuit = c;
            wires = width;
            done = 0;
            taken = 0;
            bits = 0;
            tapeBits = tape;
            groupSize = NONE;
            roots.setOne(1 << width, at);
        }

        boolean hasWires(int set) {
            return set >>> wires == 0;
        }

        void step(int op) {
            done++;
            groupSize = NONE;
            if ((Bank.onesOf(op) & ~bits) != 0 || (Bank.zerosOf(op) & bits) != 0) {
                return;
            }
            int kind = Bank.kindOf(op);
            if (kind < M) {
                roots.apply(op, 0, false);
                return;
            }
            int outcome = observe(1 << Bank.wireOf(op));
            if (kind == M) {
                int bit = 1 << Bank.secondOf(op);
                bits = outcome == 1 ? bits | bit : bits & ~bit;
            } else if (outcome == 1) {
                roots.apply(Bank.pack(X, Bank.wireOf(op), 0, 0), 0, false);
            }
        }

        private int observe(int bit) {
            boolean canBeOne = roots.hasAny(bit, bit);
            int outcome = canBeOne ? 1 : 0;
            if (canBeOne && roots.hasAny(bit, 0)) {
                outcome = taken < 64 ? (int) (tapeBits >>> taken) & 1 : 0;
                taken++;
            }
            roots.wipe(bit, outcome == 1 ? 0 : bit);
            return outcome;
        }

        long expectedPart(int xs, int zs, int part) {
            roots.clearSum();
            int both = Integer.bitCount(xs & zs);
            for (int i = 0; i < roots.size; i++) {
                int from = i ^ xs;
                roots.addProduct(i, from, 2 * both + 4 * Integer.bitCount(zs & from) & 7, true);
            }
            return Roots.realPart(roots.sum[0], roots.sum[1], roots.power, part);
        }

        long mixedPart(int bit, int row, int column, int part) {
            roots.clearSum();
            for (int i = 0; i < roots.size; i++) {
                if ((i & bit) == 0) {
                    roots.addProduct(i | column, i | row, 0, true);
                }
            }
            long[] sum = roots.sum;
            return Roots.rootPart(sum[0], sum[1], sum[2], sum[3], 2 * roots.power, part);
        }

        int countNodes(int level) {
            int count = 0;
            for (int told = 0; told < 1 << level; told++) {
                if (roots.hasAny((1 << level) - 1, told) && isNewNode(level, told, count)) {
                    kinds[count] = told;
                    count++;
                }
            }
            return count;
        }

        private boolean isNewNode(int level, int told, int count) {
            for (int i = 0; i < count; i++) {
                if (areAlike(level, kinds[i], told)) {
                    return false;
                }
            }
            return true;
        }

        /** Whether two parts of the STATE differ by a factor alone; the first one is not 0. */
        private boolean areAlike(int level, int one, int two) {
            int pivot = 0;
            while (pivot < roots.size && roots.isZero(one | pivot)) {
                pivot += 1 << level;
            }
            if (pivot >= roots.size || roots.isZero(two | pivot)) {
                return false;
            }
            for (int i = 0; i < roots.size; i += 1 << level) {
                roots.clearSum();
                roots.addProduct(one | i, two | pivot, 0, false);
                roots.addProduct(two | i, one | pivot, 4, false);
                if ((roots.sum[0] | roots.sum[1] | roots.sum[2] | roots.sum[3]) != 0) {
                    return false;
                }
            }
            return true;
        }

        /** The x's that occur are a space, and all z's that go with one of them differ by z's alone. */
        void findGroup() {
            if (groupSize != NONE) {
                return;
            }
            groupSize = 0;
            for (int xs = 0; xs < roots.size; xs++) {
                boolean isNew = xs == 0 || (restOf(xs) & roots.size - 1) != 0;
                if (isNew && compareMoved(xs)) {
                    addFixing(xs);
                }
            }
            straighten();
            for (int i = 0; i < groupSize; i++) {
                int xs = groupRows[i] & roots.size - 1;
                groupSigns[i] = compareMoved(xs) && signOf(xs, groupRows[i] >> wires) == 1 ? 1 : 0;
            }
        }

        private void addFixing(int xs) {
            for (int zs = 0; zs < roots.size; zs++) {
                if (signOf(xs, zs) == NONE) {
                    continue;
                }
                int rest = restOf(xs | zs << wires);
                if (rest != 0 && groupSize < groupRows.length) {
                    groupRows[groupSize] = rest;
                    groupSize++;
                }
                if (xs != 0) {
                    return;
                }
            }
        }

        private int restOf(int row) {
            int rest = row;
            for (int i = 0; i < groupSize; i++) {
                rest ^= (rest & groupRows[i] & -groupRows[i]) != 0 ? groupRows[i] : 0;
            }
            return rest;
        }

        /** Sets quarters: ROOT i is i^quarters of ROOT i ^ xs (NONE where both are 0); false if one is no such. */
        private boolean compareMoved(int xs) {
            for (int i = 0; i < roots.size; i++) {
                boolean isZero = roots.isZero(i);
                if (isZero != roots.isZero(i ^ xs)) {
                    return false;
                }
                quarters[i] = isZero ? NONE : quartersOf(4 * i, 4 * (i ^ xs));
                if (!isZero && quarters[i] == NONE) {
                    return false;
                }
            }
            return true;
        }

        private int quartersOf(int i, int j) {
            for (int turns = 0; turns < 4; turns++) {
                boolean alike = true;
                for (int part = 0; part < 4 && alike; part++) {
                    int to = part + 2 * turns & 7;
                    long due = roots.parts[j + part];
                    alike = roots.parts[i + (to & 3)] == (to < 4 ? due : -due);
                }
                if (alike) {
                    return turns;
                }
            }
            return NONE;
        }

        /** The sign of a PAULI of the x's that quarters were set for; NONE if the STATE becomes another one. */
        private int signOf(int xs, int zs) {
            int sign = NONE;
            int both = Integer.bitCount(xs & zs);
            for (int i = 0; i < roots.size; i++) {
                if (quarters[i] == NONE) {
                    continue;
                }
                int off = both + 2 * Integer.bitCount(zs & (i ^ xs)) - quarters[i] & 3;
                if ((off & 1) != 0 || sign != NONE && sign != off >> 1) {
                    return NONE;
                }
                sign = off >> 1;
            }
            return sign;
        }

        private void straighten() {
            int rank = 0;
            for (int column = 0; column < 2 * wires && rank < groupSize; column++) {
                int pivot = rank;
                while (pivot < groupSize && (groupRows[pivot] >> column & 1) == 0) {
                    pivot++;
                }
                if (pivot == groupSize) {
                    continue;
                }
                int row = groupRows[pivot];
                groupRows[pivot] = groupRows[rank];
                groupRows[rank] = row;
                for (int i = 0; i < groupSize; i++) {
                    groupRows[i] ^= i != rank && (groupRows[i] >> column & 1) != 0 ? row : 0;
                }
                rank++;
            }
        }
    }

    /** PAULIS with signs, taken through gates; the TABLE is one of these. */
    private static final class Signs {
        /** Added to a kind: with one CONTROL. */
        static final int CONTROLLED = 16;

        final int[] xs;
        final int[] zs;
        final int[] signs;
        int rows = 0;
        boolean straight = false;

        Signs(int most) {
            xs = new int[most];
            zs = new int[most];
            signs = new int[most];
        }

        /** The e of P Q = i^e * (the PAULI of both's x's and z's), each PAULI as the document writes it. */
        static int quartersOfProduct(int x1, int z1, int x2, int z2) {
            int own = Integer.bitCount(x1 & z1) + Integer.bitCount(x2 & z2);
            return own + 2 * Integer.bitCount(z1 & x2) - Integer.bitCount((x1 ^ x2) & (z1 ^ z2)) & 3;
        }

        void setZero(int n) {
            rows = 0;
            for (int i = 0; i < n && i < xs.length; i++) {
                setRow(i, 0, 1 << i);
            }
        }

        void setRow(int i, int x, int z) {
            xs[i] = x;
            zs[i] = z;
            signs[i] = 0;
            rows = Math.max(rows, i + 1);
            straight = false;
        }

        void turnByOp(int op) {
            int controls = Bank.controlsOf(op);
            int kind = Bank.kindOf(op);
            if (controls == 0) {
                turnBy(kind, Bank.wireOf(op), Bank.secondOf(op));
            } else {
                turnBy(kind + CONTROLLED, Bank.wireOf(op), Bank.lowest(controls));
            }
        }

        /** Each PAULI P becomes G P G^-1; other: the second WIRE of w, or the CONTROL. */
        void turnBy(int kind, int wire, int other) {
            straight = false;
            for (int i = 0; i < rows; i++) {
                switch (kind) {
                    case X: signs[i] ^= zs[i] >> wire & 1; break;
                    case Y: signs[i] ^= (xs[i] ^ zs[i]) >> wire & 1; break;
                    case Z: signs[i] ^= xs[i] >> wire & 1; break;
                    case H: turnByH(i, wire); break;
                    case S: turnByS(i, wire); break;
                    case BACK_S:
                        turnByS(i, wire);
                        signs[i] ^= xs[i] >> wire & 1;
                        break;
                    case W:
                        xs[i] = exchanged(xs[i], wire, other);
                        zs[i] = exchanged(zs[i], wire, other);
                        break;
                    default:
                        turnByControlled(kind - CONTROLLED, i, wire, other);
                        break;
                }
            }
        }

        private void turnByH(int i, int wire) {
            int bit = 1 << wire;
            signs[i] ^= (xs[i] & zs[i]) >> wire & 1;
            int differ = (xs[i] ^ zs[i]) & bit;
            xs[i] ^= differ;
            zs[i] ^= differ;
        }

        private void turnByS(int i, int wire) {
            signs[i] ^= (xs[i] & zs[i]) >> wire & 1;
            zs[i] ^= xs[i] & 1 << wire;
        }

        /** x and y with a CONTROL are z with one between gates that take z to them. */
        private void turnByControlled(int kind, int i, int wire, int control) {
            if (kind == Y) {
                turnByS(i, wire);
                signs[i] ^= xs[i] >> wire & 1;
            }
            if (kind != Z) {
                turnByH(i, wire);
            }
            int x = xs[i] >> wire & 1;
            int xOfControl = xs[i] >> control & 1;
            signs[i] ^= x & xOfControl & (zs[i] >> wire ^ zs[i] >> control);
            zs[i] ^= x << control | xOfControl << wire;
            if (kind != Z) {
                turnByH(i, wire);
            }
            if (kind == Y) {
                turnByS(i, wire);
            }
        }

        private static int exchanged(int set, int a, int b) {
            int differ = (set >> a ^ set >> b) & 1;
            return set ^ (differ << a | differ << b);
        }

        /** Row i becomes its product with row j; both commute. */
        private void multiply(int i, int j) {
            int quarters = quartersOfProduct(xs[i], zs[i], xs[j], zs[j]);
            signs[i] ^= signs[j] ^ quarters >> 1;
            xs[i] ^= xs[j];
            zs[i] ^= zs[j];
        }

        /** Measures a WIRE of the TABLE: the outcome, and 2 more if the bit told it. */
        int observe(int wire, int bit) {
            int first = 0;
            while (first < rows && (xs[first] >> wire & 1) == 0) {
                first++;
            }
            if (first == rows) {
                return signOfZ(wire);
            }
            for (int i = first + 1; i < rows; i++) {
                if ((xs[i] >> wire & 1) != 0) {
                    multiply(i, first);
                }
            }
            setRow(first, 0, 1 << wire);
            signs[first] = bit;
            return bit + 2;
        }

        /** z of a WIRE that commutes with all rows is a product of those that have no x's. */
        private int signOfZ(int wire) {
            straighten();
            int left = 1 << wire;
            int sign = 0;
            for (int i = 0; i < rows; i++) {
                if (xs[i] == 0 && (left & zs[i] & -zs[i]) != 0) {
                    left ^= zs[i];
                    sign ^= signs[i];
                }
            }
            return sign;
        }

        void straighten() {
            int rank = 0;
            for (int column = 0; column < 2 * rows && !straight; column++) {
                int[] side = column < rows ? xs : zs;
                int at = column < rows ? column : column - rows;
                int pivot = rank;
                while (pivot < rows && (side[pivot] >> at & 1) == 0) {
                    pivot++;
                }
                if (pivot >= rows) {
                    continue;
                }
                swapRows(pivot, rank);
                for (int i = 0; i < rows; i++) {
                    if (i != rank && (side[i] >> at & 1) != 0) {
                        multiply(i, rank);
                    }
                }
                rank++;
            }
            straight = true;
        }

        private void swapRows(int i, int j) {
            int x = xs[i];
            int z = zs[i];
            int sign = signs[i];
            xs[i] = xs[j];
            zs[i] = zs[j];
            signs[i] = signs[j];
            xs[j] = x;
            zs[j] = z;
            signs[j] = sign;
        }
    }

    /** The DIAGRAM; its EDGES are sets of SPIDERS, which 60 numbers let one long hold. */
    private static final class Web {
        static final int MOST = 60;

        final long[] plain = new long[MOST];
        final long[] turned = new long[MOST];
        final int[] phases = new int[MOST];
        final int[] ends = new int[4];
        final int[] inner = new int[MOST];
        final long[] meant = new long[4];
        int made = 0;
        int wires = 0;
        int twisted = 0;
        int askedFor = NONE;
        long there = 0;

        /** How many SPIDERS a circuit needs; more than there can be if it has OPS that can't be. */
        int countSpiders(Bank bank, int c) {
            int count = 2 * bank.widths[c];
            for (int i = 0; i < bank.sizes[c]; i++) {
                int op = bank.opAt(c, i);
                int kind = Bank.kindOf(op);
                int controls = Integer.bitCount(Bank.controlsOf(op));
                boolean can = controls == 0 ? kind <= W : controls == 1 && (kind == X || kind == Z);
                if (!can || Bank.asks(op)) {
                    return MOST + 1;
                }
                boolean twice = controls == 1 || kind == Y;
                count += twice ? 2 : kind == H || kind == W ? 0 : 1;
            }
            return count;
        }

        void draw(Bank bank, int c) {
            wires = bank.widths[c];
            made = 0;
            there = 0;
            twisted = 0;
            askedFor = NONE;
            for (int i = 0; i < 2 * wires; i++) {
                addSpider(0);
            }
            for (int i = 0; i < wires; i++) {
                ends[i] = i;
            }
            for (int i = 0; i < bank.sizes[c]; i++) {
                drawOp(bank.opAt(c, i));
            }
            for (int i = 0; i < wires; i++) {
                join(wires + i, ends[i], (twisted >> i & 1) != 0);
            }
        }

        private int addSpider(int phase) {
            int i = Math.min(made, MOST - 1);
            plain[i] = 0;
            turned[i] = 0;
            phases[i] = phase;
            there |= 1L << i;
            made = i + 1;
            return i;
        }

        private void putPhase(int wire, int phase) {
            int i = addSpider(phase);
            join(i, ends[wire], (twisted >> wire & 1) != 0);
            ends[wire] = i;
            twisted &= ~(1 << wire);
        }

        private void drawOp(int op) {
            int kind = Bank.kindOf(op);
            int wire = Bank.wireOf(op) & 3;
            if (kind == W) {
                drawExchange(wire, Bank.secondOf(op) & 3);
                return;
            }
            if (kind == Y) {
                putPhase(wire, 4);
            }
            boolean twists = kind == X || kind == Y || kind == H;
            twisted ^= twists ? 1 << wire : 0;
            if (Bank.controlsOf(op) != 0) {
                int control = Bank.lowest(Bank.controlsOf(op)) & 3;
                putPhase(control, 0);
                putPhase(wire, 0);
                join(ends[control], ends[wire], true);
            } else if (kind != H) {
                putPhase(wire, twists ? 4 : EIGHTHS[kind]);
            }
            twisted ^= kind == X || kind == Y ? 1 << wire : 0;
        }

        private void drawExchange(int a, int b) {
            int end = ends[a];
            ends[a] = ends[b];
            ends[b] = end;
            int differ = (twisted >> a ^ twisted >> b) & 1;
            twisted ^= differ << a | differ << b;
        }

        boolean isThere(int i) {
            return i >= 0 && i < made && (there >>> i & 1) != 0;
        }

        private boolean isInner(int i) {
            return i >= 2 * wires && isThere(i);
        }

        private long outer() {
            return (1L << 2 * wires) - 1;
        }

        int countInner() {
            return Long.bitCount(there & ~outer());
        }

        int edgeKind(int i, int j) {
            return (plain[i] >>> j & 1) != 0 ? 1 : (turned[i] >>> j & 1) != 0 ? 2 : 0;
        }

        private void setEdge(int a, int b, int kind) {
            plain[a] = kind == 1 ? plain[a] | 1L << b : plain[a] & ~(1L << b);
            plain[b] = kind == 1 ? plain[b] | 1L << a : plain[b] & ~(1L << a);
            turned[a] = kind == 2 ? turned[a] | 1L << b : turned[a] & ~(1L << b);
            turned[b] = kind == 2 ? turned[b] | 1L << a : turned[b] & ~(1L << a);
        }

        /** An EDGE comes, together with one that is there. */
        private void join(int a, int b, boolean isTurned) {
            int old = edgeKind(a, b);
            int kind = isTurned ? 2 : 1;
            if (old == 0) {
                setEdge(a, b, kind);
            } else if (old != kind) {
                setEdge(a, b, 1);
                grow(Math.min(a, b), 4);
            } else if (isTurned) {
                setEdge(a, b, 0);
            }
        }

        private void grow(int i, int phase) {
            phases[i] = phases[i] + phase & 7;
        }

        private void remove(int a) {
            for (int i = 0; i < made; i++) {
                if (edgeKind(a, i) != 0) {
                    setEdge(a, i, 0);
                }
            }
            there &= ~(1L << a);
            askedFor = NONE;
        }

        private boolean fuse(int a, int b) {
            if (!isInner(a) || !isInner(b) || a >= b || edgeKind(a, b) != 1) {
                return false;
            }
            long straight = plain[b];
            long crooked = turned[b];
            int phase = phases[b];
            remove(b);
            grow(a, phase);
            for (int i = 0; i < made; i++) {
                if (i != a && ((straight | crooked) >>> i & 1) != 0) {
                    join(a, i, (crooked >>> i & 1) != 0);
                }
            }
            return true;
        }

        private boolean skip(int a) {
            if (!isInner(a) || phases[a] != 0 || Long.bitCount(plain[a] | turned[a]) != 2) {
                return false;
            }
            long near = plain[a] | turned[a];
            if ((near & ~outer()) == 0) {
                return false;
            }
            int c = Long.bitCount((near & -near) - 1);
            long rest = near & near - 1;
            int d = Long.bitCount((rest & -rest) - 1);
            boolean differ = edgeKind(a, c) != edgeKind(a, d);
            remove(a);
            join(c, d, differ);
            return true;
        }

        /** Whether none of these is INPUT or OUTPUT, nor has a PLAIN EDGE to another one of them. */
        private boolean areFree(long near) {
            for (int i = 0; i < made; i++) {
                if ((near >>> i & 1) != 0 && (plain[i] & near) != 0) {
                    return false;
                }
            }
            return (near & outer()) == 0;
        }

        private boolean complement(int a) {
            if (!isInner(a) || (phases[a] & 3) != 2 || plain[a] != 0 || !areFree(turned[a])) {
                return false;
            }
            long near = turned[a];
            int phase = 8 - phases[a];
            remove(a);
            for (int i = 0; i < made; i++) {
                if ((near >>> i & 1) != 0) {
                    grow(i, phase);
                    joinAll(i, near & (1L << i) - 1);
                }
            }
            return true;
        }

        private void joinAll(int i, long others) {
            for (int j = 0; j < made; j++) {
                if ((others >>> j & 1) != 0) {
                    join(i, j, true);
                }
            }
        }

        private boolean pivot(int a, int b) {
            if (!isInner(a) || !isInner(b) || a >= b || edgeKind(a, b) != 2) {
                return false;
            }
            long nearA = turned[a] & ~(1L << b);
            long nearB = turned[b] & ~(1L << a);
            boolean fits = ((phases[a] | phases[b]) & 3) == 0 && (plain[a] | plain[b]) == 0;
            if (!fits || !areFree(nearA | nearB)) {
                return false;
            }
            remove(a);
            remove(b);
            long both = nearA & nearB;
            for (int i = 0; i < made; i++) {
                boolean ofA = (nearA >>> i & 1) != 0;
                boolean ofB = (nearB >>> i & 1) != 0;
                grow(i, (ofA ? phases[b] : 0) + (ofB ? phases[a] : 0) + (ofA && ofB ? 4 : 0));
                if (ofA && ofB) {
                    joinAll(i, (nearA | nearB) & ~both);
                } else if (ofA) {
                    joinAll(i, nearB & ~both);
                }
            }
            return true;
        }

        boolean doRule(int rule, int a, int b) {
            switch (rule) {
                case 1: return fuse(a, b);
                case 2: return skip(a);
                case 3: return complement(a);
                case 4: return pivot(a, b);
                default: return false;
            }
        }

        /** Each RULE takes away a SPIDER, so this is true at most as often as there are some. */
        boolean doFirstRule() {
            for (int rule = 1; rule <= 4; rule++) {
                for (int a = 2 * wires; a < made; a++) {
                    boolean ofTwo = rule == 1 || rule == 4;
                    for (int b = ofTwo ? a + 1 : made - 1; b < made; b++) {
                        if (doRule(rule, a, b)) {
                            return true;
                        }
                    }
                }
            }
            return false;
        }

        /** Kept for the STARTS that were asked for last: a caller asks for the five parts one by one. */
        void sumUp(int input, int output) {
            int question = input | output << 4;
            if (question == askedFor) {
                return;
            }
            askedFor = question;
            Arrays.fill(meant, 0);
            int count = 0;
            for (int i = 2 * wires; i < made; i++) {
                if (isThere(i)) {
                    inner[count] = i;
                    count++;
                }
            }
            long fixed = (long) input | (long) output << wires;
            for (int way = 0; way < 1 << count; way++) {
                long values = fixed;
                for (int i = 0; i < count; i++) {
                    values |= (long) (way >> i & 1) << inner[i];
                }
                addWay(values);
            }
        }

        private void addWay(long values) {
            int eighths = 0;
            for (int i = 0; i < made; i++) {
                if ((values >>> i & 1) != 0) {
                    if ((plain[i] & ~values) != 0) {
                        return;
                    }
                    long above = turned[i] & values & ~((2L << i) - 1);
                    eighths += phases[i] + 4 * Long.bitCount(above);
                }
            }
            meant[eighths & 3] += (eighths & 4) == 0 ? 1 : -1;
        }
    }

    /** The CODE. What a PAULI's NUMBER tells is linear, so two halves of it, looked up, tell it. */
    private static final class Guard {
        static final String LETTERS = "IXYZ";

        final int[] vectors = new int[8];
        final int[] reducers = new int[8];
        final int[] readVectors = new int[8];
        final int[] readPlaces = new int[8];
        final int[] syndromes = new int[512];
        final int[] rests = new int[512];
        final int[] corrections = new int[256];
        final int[] groupBy = new int[9];
        final int[] centreBy = new int[9];
        final int[] missedBy = new int[9];
        int n = 0;
        int rows = 0;
        int readN;
        int readRows;
        int column;
        int faultKind = 0;
        int faultPlace = 0;
        boolean counted = false;

        /** A vector has x of WIRE i as bit i and z as bit 8 + i. */
        private static boolean commute(int a, int b) {
            return (Integer.bitCount(a & 255 & b >> 8) + Integer.bitCount(a >> 8 & b) & 1) == 0;
        }

        void read(char[] tape, int length) {
            faultKind = 0;
            faultPlace = 0;
            readN = 0;
            readRows = 0;
            column = 0;
            for (int i = 0; i < length && faultKind == 0; i++) {
                if (tape[i] != ' ' && !readOne(tape[i], i)) {
                    tellFault(1, i);
                }
            }
            if (faultKind == 0 && !rowIsFull()) {
                tellFault(1, length);
            }
            if (faultKind == 0) {
                readN = column;
                readRows++;
                checkRows();
            }
            if (faultKind == 0) {
                takeOver();
            }
        }

        private void tellFault(int kind, int place) {
            faultKind = kind;
            faultPlace = place;
        }

        private boolean rowIsFull() {
            return readRows == 0 ? column > 0 : column == readN;
        }

        private boolean readOne(char c, int place) {
            if (c == ',') {
                if (!rowIsFull() || readRows + 1 >= column) {
                    return false;
                }
                readN = column;
                readRows++;
                column = 0;
                return true;
            }
            int digit = LETTERS.indexOf(c);
            if (digit < 0 || column >= (readRows == 0 ? 8 : readN) || readRows >= 8) {
                return false;
            }
            if (column == 0) {
                readVectors[readRows] = 0;
                readPlaces[readRows] = place;
            }
            readVectors[readRows] |= vectorOfDigit(digit) << column;
            column++;
            return true;
        }

        private static int vectorOfDigit(int digit) {
            return (digit == 1 || digit == 2 ? 1 : 0) | (digit >= 2 ? 256 : 0);
        }

        private void checkRows() {
            for (int i = 0; i < readRows && faultKind == 0; i++) {
                for (int j = 0; j < i; j++) {
                    if (!commute(readVectors[i], readVectors[j])) {
                        tellFault(2, readPlaces[i]);
                        return;
                    }
                }
                if (dependsOnAhead(i)) {
                    tellFault(3, readPlaces[i]);
                }
            }
        }

        /** At most 7 rows are ahead, so all their products can be gone through. */
        private boolean dependsOnAhead(int i) {
            for (int set = 0; set < 1 << i; set++) {
                int product = readVectors[i];
                for (int j = 0; j < i; j++) {
                    product ^= (set >> j & 1) != 0 ? readVectors[j] : 0;
                }
                if (product == 0) {
                    return true;
                }
            }
            return false;
        }

        private void takeOver() {
            n = readN;
            rows = readRows;
            counted = false;
            for (int i = 0; i < rows; i++) {
                vectors[i] = readVectors[i];
                reducers[i] = reduced(readVectors[i], i);
            }
            for (int half = 0; half < 2; half++) {
                for (int i = 0; i < 256; i++) {
                    int vector = vectorOf(i, 4 * half);
                    syndromes[256 * half + i] = findSyndrome(vector);
                    rests[256 * half + i] = reduced(vector, rows);
                }
            }
        }

        /** The vector of four digits of a NUMBER, of which the last is digit from; none for those that it has not. */
        private int vectorOf(int digits, int from) {
            int vector = 0;
            for (int i = 0; i < 4; i++) {
                int wire = n - 1 - from - i;
                vector |= wire >= 0 ? vectorOfDigit(digits >> 2 * i & 3) << wire : 0;
            }
            return vector;
        }

        private int findSyndrome(int vector) {
            int syndrome = 0;
            for (int i = 0; i < rows; i++) {
                syndrome |= commute(vector, vectors[i]) ? 0 : 1 << i;
            }
            return syndrome;
        }

        private int reduced(int vector, int count) {
            int rest = vector;
            for (int i = 0; i < count; i++) {
                rest ^= (rest & reducers[i] & -reducers[i]) != 0 ? reducers[i] : 0;
            }
            return rest;
        }

        int syndromeOf(int number) {
            return syndromes[number & 255] ^ syndromes[256 | number >> 8 & 255];
        }

        /** 0 just for those of THE GROUP. */
        int restOf(int number) {
            return rests[number & 255] ^ rests[256 | number >> 8 & 255];
        }

        int weightOf(int number) {
            return Integer.bitCount((number | number >> 1) & 0x5555);
        }

        void countAll() {
            if (counted) {
                return;
            }
            counted = true;
            Arrays.fill(groupBy, 0);
            Arrays.fill(centreBy, 0);
            Arrays.fill(missedBy, 0);
            Arrays.fill(corrections, NONE);
            int numbers = 1 << 2 * n;
            for (int i = 0; i < numbers; i++) {
                int weight = weightOf(i);
                int syndrome = syndromeOf(i);
                groupBy[weight] += restOf(i) == 0 ? 1 : 0;
                centreBy[weight] += syndrome == 0 ? 1 : 0;
                int old = corrections[syndrome];
                if (old == NONE || weight < weightOf(old)) {
                    corrections[syndrome] = i;
                }
            }
            for (int i = 0; i < numbers; i++) {
                int correction = corrections[syndromeOf(i)];
                missedBy[weightOf(i)] += restOf(i) != restOf(correction) ? 1 : 0;
            }
        }

        int distance() {
            for (int weight = 1; weight <= n; weight++) {
                int others = rows == n ? 0 : groupBy[weight];
                if (centreBy[weight] > others) {
                    return weight;
                }
            }
            return 0;
        }
    }

    /** What the group of h and s tells: THE FORM of one WIRE, and the SHORTEST circuits of two. */
    private static final class Cliffords {
        /** How many there are of two WIRES, signs apart; each comes with 16 rows of signs. */
        static final int OF_TWO = 720;
        static final int FURTHEST = 14;
        /** All bits of a key but those of the signs. */
        static final int UNSIGNED = 0x7BDEF;
        /** h 0, h 1, s 0, s 1, z on 1 with the CONTROL 0, then the inverses of s 0, s 1. */
        static final int[] STEPS = {3, 19, 4, 20, 1042, 6, 22};
        static final int[] BACK_STEPS = {0, 1, 5, 6, 4};

        final Signs four = new Signs(4);
        final int[] stepped = new int[7 * 32];
        /** By rank: what it makes of x 0, z 0, x 1, z 1, five bits each (two x's, two z's, a sign, here 0). */
        final int[] keys = new int[OF_TWO];
        /** By rank, four bits for each row of signs: 1 more than how many OPS lead to no gate; 0: not known yet. */
        final long[] distances = new long[OF_TWO];
        final int[] path = new int[64];
        final int[] syllables = new int[MOST_OPS + 1];
        final char[] letters = new char[3 * MOST_OPS + 32];
        final int[] wordKeys = new int[24];
        final int[] wordFrom = new int[24];
        /** Up to here all distances are known. */
        int known = NONE;
        int words = 0;
        int syllableCount;
        int imageOfX;
        int imageOfZ;
        int letterCount = NONE;
        int tCount = 0;

        /**
         * False if c has not two WIRES, or OPS that can't be. The OPS that are looked for take the inverse
         * of c to no gate: so the first of them can be told first.
         */
        boolean putShortest(Bank bank, int c) {
            if (bank.widths[c] != 2) {
                return false;
            }
            startFour();
            for (int i = bank.sizes[c] - 1; i >= 0; i--) {
                int op = bank.opAt(c, i);
                if (!Bank.isClifford(op)) {
                    return false;
                }
                four.turnByOp(Bank.inverse(op));
            }
            int key = keyOfFour();
            prepare();
            for (int distance = known; distance < FURTHEST && distanceOf(key) == 0; distance++) {
                spreadFrom(distance);
            }
            for (int left = distanceOf(key) - 1; left > 0; left--) {
                int step = 0;
                while (step < 4 && distanceOf(stepFrom(key, step)) != left) {
                    step++;
                }
                bank.put(STEPS[step]);
                key = stepFrom(key, step);
            }
            return true;
        }

        private void startFour() {
            four.setRow(0, 1, 0);
            four.setRow(1, 0, 1);
            four.setRow(2, 2, 0);
            four.setRow(3, 0, 2);
        }

        private int keyOfFour() {
            int key = 0;
            for (int i = 0; i < 4; i++) {
                key |= (four.xs[i] | four.zs[i] << 2 | four.signs[i] << 4) << 5 * i;
            }
            return key;
        }

        private void prepare() {
            if (known != NONE) {
                return;
            }
            for (int i = 0; i < stepped.length; i++) {
                four.setRow(0, i & 3, i >> 2 & 3);
                four.turnByOp(STEPS[i >> 5]);
                stepped[i] = four.xs[0] | four.zs[0] << 2 | (four.signs[0] ^ i >> 4 & 1) << 4;
            }
            startFour();
            int key = keyOfFour();
            keys[rankOf(key)] = key;
            distances[rankOf(key)] = 1;
            known = 0;
        }

        private int stepFrom(int key, int step) {
            int table = step << 5;
            int low = stepped[table | key & 31] | stepped[table | key >> 5 & 31] << 5;
            return low | stepped[table | key >> 10 & 31] << 10 | stepped[table | key >> 15 & 31] << 15;
        }

        private static int signsOf(int key) {
            return key >> 4 & 1 | key >> 8 & 2 | key >> 12 & 4 | key >> 16 & 8;
        }

        private int distanceOf(int key) {
            return (int) (distances[rankOf(key)] >>> 4 * signsOf(key)) & 15;
        }

        /**
         * Of a key, signs apart, 0 .. 719: x 0 becomes one of 15, z 0 one of the 8 that do not commute with
         * that one (three bits tell it, the fourth comes of them), x 1 and z 1 two of the 3 that commute with both.
         */
        private static int rankOf(int key) {
            int first = key & 15;
            int second = key >> 5 & 15;
            int third = key >> 10 & 15;
            int fourth = key >> 15 & 15;
            int last = third ^ fourth;
            int hidden = Bank.lowest(first >> 2 | (first & 3) << 2);
            int shown = second >> hidden + 1 << hidden | second & (1 << hidden) - 1;
            int order = 2 * ((third > fourth ? 1 : 0) + (third > last ? 1 : 0)) + (fourth > last ? 1 : 0);
            int rank = ((first - 1) * 8 + shown) * 6 + order;
            return Math.max(0, Math.min(rank, OF_TWO - 1));
        }

        private void spreadFrom(int distance) {
            for (int rank = 0; rank < OF_TWO; rank++) {
                int set = signsAt(rank, distance);
                for (int i = 0; i < 5 && set != 0; i++) {
                    spreadTo(stepFrom(keys[rank], BACK_STEPS[i]), set, distance + 1);
                }
            }
            known = distance + 1;
        }

        /** Which rows of signs are at a distance, as a set. */
        private int signsAt(int rank, int distance) {
            int set = 0;
            long left = distances[rank];
            for (int signs = 0; signs < 16 && left != 0; signs++) {
                set |= (left & 15) == distance + 1 ? 1 << signs : 0;
                left >>>= 4;
            }
            return set;
        }

        /** The signs of the key are those that the step itself turns. */
        private void spreadTo(int key, int set, int distance) {
            int rank = rankOf(key);
            int turned = signsOf(key);
            keys[rank] = key & UNSIGNED;
            for (int signs = 0; signs < 16; signs++) {
                int at = 4 * (signs ^ turned);
                if ((set >> signs & 1) != 0 && (distances[rank] >>> at & 15) == 0) {
                    distances[rank] |= distance + 1L << at;
                }
            }
        }

        /**
         * The product is built from its left end, which is the last OP: what is behind the t's so far is
         * kept as what it makes of x and z, three bits each (x, z, sign).
         */
        void findForm(Bank bank, int c) {
            makeWords();
            syllableCount = 0;
            imageOfX = 1;
            imageOfZ = 2;
            for (int i = bank.sizes[c] - 1; i >= 0; i--) {
                timesGate(Bank.kindOf(bank.opAt(c, i)));
            }
            letterCount = 0;
            tCount = syllableCount;
            for (int i = 0; i < syllableCount; i++) {
                addLetter(syllables[i] == 2, 's');
                addLetter(syllables[i] != 0, 'h');
                addLetter(true, 't');
            }
            addWord();
        }

        private void addLetter(boolean is, char letter) {
            if (is && letterCount < letters.length) {
                letters[letterCount] = letter;
                letterCount++;
            }
        }

        private void addWord() {
            int node = 0;
            while (node < words - 1 && wordKeys[node] != (imageOfX | imageOfZ << 3)) {
                node++;
            }
            int length = 0;
            while (node > 0 && length < path.length) {
                path[length] = wordFrom[node] & 1;
                node = wordFrom[node] >> 1;
                length++;
            }
            for (int i = length - 1; i >= 0; i--) {
                addLetter(true, path[i] == 0 ? 'h' : 's');
            }
        }

        private void makeWords() {
            if (words != 0) {
                return;
            }
            wordKeys[0] = 1 | 2 << 3;
            words = 1;
            for (int i = 0; i < words && i < 24; i++) {
                for (int letter = 0; letter < 2; letter++) {
                    imageOfX = wordKeys[i] & 7;
                    imageOfZ = wordKeys[i] >> 3;
                    timesGate(letter == 0 ? H : S);
                    addWordKey(imageOfX | imageOfZ << 3, i << 1 | letter);
                }
            }
        }

        private void addWordKey(int key, int by) {
            for (int i = 0; i < words; i++) {
                if (wordKeys[i] == key) {
                    return;
                }
            }
            if (words < 24) {
                wordKeys[words] = key;
                wordFrom[words] = by;
                words++;
            }
        }

        private void timesGate(int kind) {
            int kept = imageOfX;
            switch (kind) {
                case X: imageOfZ ^= 4; break;
                case Z: imageOfX ^= 4; break;
                case Y:
                    imageOfX ^= 4;
                    imageOfZ ^= 4;
                    break;
                case H:
                    imageOfX = imageOfZ;
                    imageOfZ = kept;
                    break;
                case S: imageOfX = imageOfY(); break;
                case BACK_S: imageOfX = imageOfY() ^ 4; break;
                case T: timesT(); break;
                case BACK_T:
                    timesT();
                    imageOfX = imageOfY() ^ 4;
                    break;
                default: break;
            }
        }

        /** y is i * x * z. */
        private int imageOfY() {
            int x = imageOfX;
            int z = imageOfZ;
            int quarters = 1 + Signs.quartersOfProduct(x & 1, x >> 1 & 1, z & 1, z >> 1 & 1) & 3;
            return (x ^ z) ^ (quarters >> 1) << 2;
        }

        /** Two t's that meet are an s: then the last syllable goes back into what is behind. */
        private void timesT() {
            int axis = imageOfZ & 3;
            int syllable = axis == 2 ? 0 : axis == 1 ? 1 : 2;
            if (syllable == 2) {
                aheadOf(BACK_S);
            }
            if (syllable != 0) {
                aheadOf(H);
            }
            if ((imageOfZ & 4) != 0) {
                aheadOf(BACK_S);
            }
            if (syllable != 0 || syllableCount == 0) {
                if (syllableCount < syllables.length) {
                    syllables[syllableCount] = syllable;
                    syllableCount++;
                }
                return;
            }
            syllableCount--;
            aheadOf(S);
            if (syllables[syllableCount] != 0) {
                aheadOf(H);
            }
            if (syllables[syllableCount] == 2) {
                aheadOf(S);
            }
        }

        private void aheadOf(int kind) {
            imageOfX = turnedImage(imageOfX, kind);
            imageOfZ = turnedImage(imageOfZ, kind);
        }

        private static int turnedImage(int image, int kind) {
            int x = image & 1;
            int z = image >> 1 & 1;
            int sign = image >> 2 & 1;
            if (kind == H) {
                return z | x << 1 | (sign ^ x & z) << 2;
            }
            int flips = kind == S ? x & z : x & (z ^ 1);
            return x | (z ^ x) << 1 | (sign ^ flips) << 2;
        }
    }

    /** What is looked for among many: ways on the CHIP, least permutations' circuits, KIN and least costs. */
    private static final class Search {
        static final int[] LOW_END = {0, 0, 0, 0, 0, 1, 1, 1, 1, 2, 2, 2, 3, 3, 4};
        static final int[] HIGH_END = {1, 2, 3, 4, 5, 2, 3, 4, 5, 3, 4, 5, 4, 5, 5};
        static final int ARRANGEMENTS = 720;
        /** Longs that hold two bits for each arrangement. */
        static final int LAYER = 23;
        static final int NO_WAY = 3;
        static final int NOT_KNOWN = 1 << 30;
        /** Far above what is looked at: with more SWAPS than MOST_OPS there is no WAY. */
        static final int MOST_NEED = 1000;
        static final int[] CONTROLS = {0, 2, 4, 6, 0, 1, 4, 5, 0, 1, 2, 3};
        static final int EVERY_THIRD = 0x249249;
        static final int IDENTITY = 0xFAC688;
        static final int NEAR = 3;
        static final int MOST_AHEAD = 5;
        static final int SLOTS = 2048;
        static final int GRAPH_WORDS = 512;

        final int[] legs = new int[9];
        final int[] near = new int[6];
        final int[] path = new int[MOST_OPS + 1];
        /** By rank: at which place each WIRE is, three bits each. */
        final int[] arrangements = new int[ARRANGEMENTS];
        /** By rank, three each: the ranks behind the SWAPS of five LINKS, twelve bits each (its own: no LINK). */
        final long[] neighbours = new long[3 * ARRANGEMENTS];
        /** By rank: how many SWAPS are needed from there on. */
        final int[] needs = new int[ARRANGEMENTS];
        /** For each OP what it needs with those behind it, modulo 3, or NO_WAY: neighbours differ by 1 at most. */
        final long[] layers = new long[LAYER * MOST_OPS];
        /** Permutations that are NEAR the identity, and above them 1 more than their distance (0: it is free). */
        final int[] slots = new int[SLOTS];
        final long[] seen = new long[GRAPH_WORDS];
        final long[] fresh = new long[GRAPH_WORDS];
        final int[] subsetLegs = new int[512];
        final int[] subsetCosts = new int[512];
        int links = 0;
        int swapsTold = 0;

        void setLink(int a, int b, boolean is) {
            int low = Math.min(a, b);
            int high = Math.max(a, b);
            for (int i = 0; i < 15; i++) {
                if (LOW_END[i] == low && HIGH_END[i] == high) {
                    links = is ? links | 1 << i : links & ~(1 << i);
                }
            }
            near[low] = is ? near[low] | 1 << high : near[low] & ~(1 << high);
            near[high] = is ? near[high] | 1 << low : near[high] & ~(1 << low);
        }

        boolean canRoute(Bank bank, int c) {
            if (bank.widths[c] > 6 || !bank.isGates(c)) {
                return false;
            }
            for (int i = 0; i < bank.sizes[c]; i++) {
                if (Integer.bitCount(Bank.wiresOf(bank.opAt(c, i))) > 2) {
                    return false;
                }
            }
            return true;
        }

        /**
         * The number of SWAPS of the least WAY (their LINKS are in path then), NONE without any, or if it
         * would have too many OPS. What is needed is worked out from the last OP to the first.
         */
        int findWay(Bank bank, int c) {
            int width = bank.widths[c];
            int size = bank.sizes[c];
            int places = placesAtFirst(width);
            int done = advance(bank, c, places, 0);
            if (done == size) {
                return 0;
            }
            int count = mapChip(width);
            int least = 0;
            for (int i = size - 1; i >= done && least <= MOST_OPS - size; i--) {
                int wires = Bank.wiresOf(bank.opAt(c, i));
                if (Integer.bitCount(wires) == 2) {
                    least = addLayer(wires, count);
                    keepLayer(i, count);
                }
            }
            int swaps = needs[rankOf(places, width)];
            if (least > MOST_OPS - size || swaps > MOST_OPS - size) {
                return NONE;
            }
            tracePath(bank, c, swaps, done);
            return swaps;
        }

        /** How many arrangements there are; nothing is needed of any of them yet. */
        private int mapChip(int width) {
            int count = 1;
            for (int i = 0; i < width; i++) {
                count *= 6 - i;
            }
            for (int rank = 0; rank < count; rank++) {
                arrangements[rank] = placesOf(rank, width, count);
                needs[rank] = 0;
            }
            for (int rank = 0; rank < count; rank++) {
                for (int word = 0; word < 3; word++) {
                    neighbours[3 * rank + word] = packNeighbours(rank, width, 5 * word);
                }
            }
            return count;
        }

        private long packNeighbours(int rank, int width, int from) {
            long packed = 0;
            for (int i = 0; i < 5; i++) {
                int link = from + i;
                int to = rank;
                if (hasLink(link)) {
                    to = rankOf(swapped(arrangements[rank], width, LOW_END[link], HIGH_END[link]), width);
                }
                packed |= (long) to << 12 * i;
            }
            return packed;
        }

        /** Each WIRE's place is counted among those that the WIRES below it leave. */
        private static int rankOf(int places, int width) {
            int rank = 0;
            int used = 0;
            for (int i = 0; i < width; i++) {
                int place = placeOf(places, i);
                rank = rank * (6 - i) + place - Integer.bitCount(used & (1 << place) - 1);
                used |= 1 << place;
            }
            return rank;
        }

        private static int placesOf(int rank, int width, int count) {
            int places = 0;
            int free = 63;
            int left = rank;
            int each = count;
            for (int i = 0; i < width; i++) {
                each /= 6 - i;
                int rest = free;
                for (int skipped = left / each; skipped > 0; skipped--) {
                    rest &= rest - 1;
                }
                left %= each;
                places |= Bank.lowest(rest) << 3 * i;
                free &= ~(rest & -rest);
            }
            return places;
        }

        /**
         * One OP more ahead of the others: where it can be done nothing more is needed, all else is one SWAP
         * further than its nearest neighbour. The least need of all; NOT_KNOWN if it can't be done at all.
         */
        private int addLayer(int wires, int count) {
            int least = NOT_KNOWN;
            int most = NONE;
            int unknown = 0;
            for (int rank = 0; rank < count; rank++) {
                if (!canBeDone(wires, arrangements[rank])) {
                    needs[rank] = NOT_KNOWN;
                    unknown++;
                } else if (needs[rank] != NOT_KNOWN) {
                    least = Math.min(least, needs[rank]);
                    most = Math.max(most, needs[rank]);
                }
            }
            for (int need = least; need <= most && need < MOST_NEED && unknown > 0; need++) {
                int found = spreadNeed(need, count);
                unknown -= found;
                most = found > 0 ? Math.max(most, need + 1) : most;
            }
            return least;
        }

        /** How many arrangements are found that need one SWAP more than need. */
        private int spreadNeed(int need, int count) {
            int found = 0;
            for (int rank = 0; rank < count; rank++) {
                if (needs[rank] != need) {
                    continue;
                }
                for (int i = 0; i < 3; i++) {
                    long packed = neighbours[3 * rank + i];
                    for (int j = 0; j < 5; j++) {
                        int other = (int) packed & 4095;
                        packed >>= 12;
                        if (needs[other] == NOT_KNOWN) {
                            needs[other] = need + 1;
                            found++;
                        }
                    }
                }
            }
            return found;
        }

        private void keepLayer(int op, int count) {
            for (int i = 0; i < LAYER; i++) {
                long packed = 0;
                for (int j = 0; j < 32 && 32 * i + j < count; j++) {
                    int need = needs[32 * i + j];
                    packed |= (long) (need == NOT_KNOWN ? NO_WAY : need % 3) << 2 * j;
                }
                layers[LAYER * op + i] = packed;
            }
        }

        private int keptNeed(int op, int rank) {
            return (int) (layers[LAYER * op + (rank >> 5)] >>> 2 * (rank & 31)) & 3;
        }

        /** Each SWAP goes over the first LINK behind which one less is needed. */
        private void tracePath(Bank bank, int c, int swaps, int from) {
            int width = bank.widths[c];
            int places = placesAtFirst(width);
            int done = from;
            for (int i = 0; i < swaps && i < path.length && done < bank.sizes[c]; i++) {
                int rank = rankOf(places, width);
                int less = (keptNeed(done, rank) + 2) % 3;
                int link = 0;
                while (link < 14 && (!hasLink(link) || keptNeed(done, neighbourOf(rank, link)) != less)) {
                    link++;
                }
                path[i] = link;
                places = arrangements[neighbourOf(rank, link)];
                done = advance(bank, c, places, done);
            }
        }

        private boolean hasLink(int link) {
            return (links >> link & 1) != 0;
        }

        private int neighbourOf(int rank, int link) {
            return (int) (neighbours[3 * rank + link / 5] >> 12 * (link % 5)) & 4095;
        }

        private static int placesAtFirst(int width) {
            int places = 0;
            for (int i = 0; i < width; i++) {
                places |= i << 3 * i;
            }
            return places;
        }

        private static int placeOf(int places, int wire) {
            return places >> 3 * wire & 7;
        }

        private static int swapped(int places, int width, int a, int b) {
            int moved = places;
            for (int i = 0; i < width; i++) {
                int place = placeOf(places, i);
                if (place == a || place == b) {
                    moved ^= (a ^ b) << 3 * i;
                }
            }
            return moved;
        }

        /** How many OPS are done when no more can be. */
        private int advance(Bank bank, int c, int places, int done) {
            int now = done;
            while (now < bank.sizes[c] && canBeDone(Bank.wiresOf(bank.opAt(c, now)), places)) {
                now++;
            }
            return now;
        }

        private boolean canBeDone(int wires, int places) {
            int rest = wires & wires - 1;
            if (rest == 0) {
                return true;
            }
            int one = placeOf(places, Bank.lowest(wires));
            int two = placeOf(places, Bank.lowest(rest));
            return one < 6 && (near[one] >> two & 1) != 0;
        }

        void putWay(Bank bank, int c, int swaps) {
            int width = bank.widths[c];
            int places = placesAtFirst(width);
            int done = 0;
            for (int i = 0; i <= swaps; i++) {
                int further = advance(bank, c, places, done);
                for (int j = done; j < further; j++) {
                    bank.put(placed(bank.opAt(c, j), places, width));
                }
                done = further;
                if (i < swaps) {
                    int low = LOW_END[path[i]];
                    int high = HIGH_END[path[i]];
                    bank.put(Bank.pack(W, low, high, 0));
                    places = swapped(places, width, low, high);
                }
            }
        }

        private static int placed(int op, int places, int width) {
            int controls = 0;
            for (int i = 0; i < width; i++) {
                controls |= (Bank.controlsOf(op) >> i & 1) << placeOf(places, i);
            }
            int second = Bank.kindOf(op) == W ? placeOf(places, Bank.secondOf(op)) : 0;
            return Bank.pack(Bank.kindOf(op), placeOf(places, Bank.wireOf(op)), second, controls);
        }

        /** NONE if it is no permutation. */
        static int inverseOf(int permutation) {
            int inverse = 0;
            int met = 0;
            for (int i = 0; i < 8; i++) {
                int to = permutation >> 3 * i & 7;
                met |= 1 << to;
                inverse |= i << 3 * to;
            }
            return met == 255 && permutation >>> 24 == 0 ? inverse : NONE;
        }

        /** One gate behind a permutation: all eight STARTS at once, each in its three bits. */
        private static int gated(int permutation, int gate) {
            int controls = CONTROLS[gate];
            int where = EVERY_THIRD;
            for (int i = 0; i < 3; i++) {
                where &= (controls >> i & 1) != 0 ? permutation >> i : EVERY_THIRD;
            }
            return permutation ^ where << (gate >> 2);
        }

        /**
         * Gates are their own inverses, so the OPS in their order take the inverse to the identity.
         * Those that are NEAR it are known; the OPS ahead of them are tried in order.
         */
        void putLeast(Bank bank, int inverse) {
            learn();
            int ahead = 0;
            while (ahead <= MOST_AHEAD && !tryGates(this, inverse, ahead, 0)) {
                ahead++;
            }
            int rest = inverse;
            for (int i = 0; i < ahead; i++) {
                putGate(bank, path[i]);
                rest = gated(rest, path[i]);
            }
            for (int left = nearness(rest) - 1; left > 0; left--) {
                int gate = 0;
                while (gate < 11 && nearness(gated(rest, gate)) != left) {
                    gate++;
                }
                putGate(bank, gate);
                rest = gated(rest, gate);
            }
        }

        private static void putGate(Bank bank, int gate) {
            bank.put(Bank.pack(X, gate >> 2, 0, CONTROLS[gate]));
        }

        /** Static, as rule 8 of the language wants a method that calls itself. */
        private static boolean tryGates(Search search, int rest, int left, int depth) {
            if (left == 0 || depth >= MOST_AHEAD) {
                return search.nearness(rest) != 0;
            }
            for (int gate = 0; gate < 12; gate++) {
                search.path[depth] = gate;
                if (search.comesInOrder(depth) && tryGates(search, gated(rest, gate), left - 1, depth + 1)) {
                    return true;
                }
            }
            return false;
        }

        /** Two gates that commute come first in order the other way round, and two of the same are none. */
        private boolean comesInOrder(int depth) {
            if (depth == 0 || path[depth] > path[depth - 1]) {
                return true;
            }
            int one = path[depth - 1];
            int two = path[depth];
            return (CONTROLS[one] >> (two >> 2) & 1) != 0 || (CONTROLS[two] >> (one >> 2) & 1) != 0;
        }

        /** By distances: what is put in meanwhile is one further than what is gone through. */
        private void learn() {
            if (nearness(IDENTITY) != 0) {
                return;
            }
            remember(IDENTITY, 1);
            for (int distance = 1; distance <= NEAR; distance++) {
                for (int i = 0; i < SLOTS; i++) {
                    for (int gate = 0; gate < 12 && slots[i] >> 24 == distance; gate++) {
                        remember(gated(slots[i] & 0xFFFFFF, gate), distance + 1);
                    }
                }
            }
        }

        private void remember(int permutation, int distance) {
            int slot = slotOf(permutation);
            if (slots[slot] == 0) {
                slots[slot] = permutation | distance << 24;
            }
        }

        /** 1 more than the distance from the identity, if it is NEAR, else 0. */
        private int nearness(int permutation) {
            return slots[slotOf(permutation)] >> 24;
        }

        /** The slot of a permutation, or the free one where it would be. */
        private int slotOf(int permutation) {
            int slot = permutation * 0x9E3779B1 >>> 21;
            for (int i = 0; i < SLOTS && slots[slot] != 0 && (slots[slot] & 0xFFFFFF) != permutation; i++) {
                slot = slot + 1 & SLOTS - 1;
            }
            return slot;
        }

        /** How many KIN there are; they are in seen then, a bit each. */
        int findKin(int n, int graph) {
            Arrays.fill(seen, 0);
            Arrays.fill(fresh, 0);
            see(graph);
            int count = 1;
            int found = 1;
            while (found > 0 && count <= 64 * GRAPH_WORDS) {
                found = 0;
                for (int i = 0; i < GRAPH_WORDS; i++) {
                    found += fresh[i] != 0 ? spreadKin(n, i) : 0;
                }
                count += found;
            }
            return count;
        }

        /** Goes through the fresh graphs of one word: how many others are found. */
        private int spreadKin(int n, int word) {
            int found = 0;
            long left = fresh[word];
            fresh[word] = 0;
            for (int bit = 0; bit < 64 && left != 0; bit++) {
                for (int point = 0; point < n && (left & 1) != 0; point++) {
                    found += see(complemented(n, 64 * word + bit, point)) ? 1 : 0;
                }
                left >>>= 1;
            }
            return found;
        }

        private boolean see(int graph) {
            long bit = 1L << (graph & 63);
            boolean is = (seen[graph >> 6] & bit) == 0;
            seen[graph >> 6] |= bit;
            fresh[graph >> 6] |= is ? bit : 0;
            return is;
        }

        private static int pairOf(int a, int b) {
            return a < b ? b * (b - 1) / 2 + a : a * (a - 1) / 2 + b;
        }

        private static int complemented(int n, int graph, int point) {
            int paired = 0;
            for (int i = 0; i < n; i++) {
                paired |= i != point ? (graph >> pairOf(i, point) & 1) << i : 0;
            }
            int other = graph;
            for (int b = 1; b < n; b++) {
                for (int a = 0; a < b; a++) {
                    other ^= (paired >> a & paired >> b & 1) << pairOf(a, b);
                }
            }
            return other;
        }

        int leastKin() {
            int word = 0;
            while (word < GRAPH_WORDS - 1 && seen[word] == 0) {
                word++;
            }
            return 64 * word + Long.bitCount((seen[word] & -seen[word]) - 1);
        }

        int fewestPairs() {
            int fewest = 15;
            for (int i = 0; i < GRAPH_WORDS; i++) {
                for (int bit = 0; bit < 64 && seen[i] >>> bit != 0; bit++) {
                    fewest = (seen[i] >>> bit & 1) != 0 ? Math.min(fewest, Integer.bitCount(64 * i + bit)) : fewest;
                }
            }
            return fewest;
        }

        int leastCost(int n) {
            for (int set = 1; set < 1 << n; set++) {
                int first = Bank.lowest(set);
                int rest = set & set - 1;
                subsetLegs[set] = subsetLegs[rest] ^ legs[first];
                subsetCosts[set] = rest == 0 ? 0 : leastSplit(set, rest);
            }
            return subsetCosts[(1 << n) - 1];
        }

        /** One side has the first TENSOR, so each split comes once. */
        private int leastSplit(int set, int rest) {
            int least = NOT_KNOWN;
            for (int side = rest; side > 0; side = side - 1 & rest) {
                int other = set ^ side;
                int together = 1 << Integer.bitCount(subsetLegs[side] | subsetLegs[other]);
                least = Math.min(least, subsetCosts[side] + subsetCosts[other] + together);
            }
            return least;
        }
    }

    /** The SUMS A and B; what is worked out is found TERM by TERM, in their order, before A becomes it. */
    private static final class Sums {
        static final int A = 0;
        static final int B = 1;
        static final int FACTOR = 2;
        static final int MOST_TERMS = 150;
        static final int GREATEST = 1000000;
        static final int MOST_HALVES = 60;
        /** Numbers moved up further than this are too great whatever they are. */
        static final int FURTHEST = 40;
        /** Above all keys. */
        static final int NO_KEY = 65536;

        final int[][] keys = new int[3][MOST_TERMS];
        final int[][] reals = new int[3][MOST_TERMS];
        final int[][] imaginaries = new int[3][MOST_TERMS];
        final int[] sizes = new int[3];
        final int[] halves = new int[3];
        final int[] foundKeys = new int[MOST_TERMS];
        final long[] foundReals = new long[MOST_TERMS];
        final long[] foundImaginaries = new long[MOST_TERMS];
        /** Of a product: what those TERMS have that have the same x's, by their z's. */
        final long[] gatheredReals = new long[256];
        final long[] gatheredImaginaries = new long[256];
        /** By x's: the first TERM of the second factor that has these or greater ones. */
        final int[] firstOf = new int[257];
        /** Those above MOST_TERMS are counted, but not kept. */
        int found = 0;

        static boolean fits(long number) {
            return number >= -GREATEST && number <= GREATEST;
        }

        boolean change(int how) {
            switch (how) {
                case 0:
                    sizes[A] = 0;
                    setTerm(A, 0, 1, 0);
                    return true;
                case 1:
                    sizes[A] = 0;
                    halves[A] = 0;
                    return true;
                case 2:
                    exchange();
                    return true;
                case 3: return add(B, 1);
                case 4: return add(B, -1);
                case 5: return multiply(A, B);
                case 6: return multiply(B, A);
                case 7:
                    for (int i = 0; i < sizes[A]; i++) {
                        imaginaries[A][i] = -imaginaries[A][i];
                    }
                    return true;
                default: return false;
            }
        }

        /** Puts one more TERM over 1 at the end of a row. */
        private void setTerm(int row, int key, int p, int q) {
            int at = Math.min(sizes[row], MOST_TERMS - 1);
            keys[row][at] = key;
            reals[row][at] = p;
            imaginaries[row][at] = q;
            sizes[row] = at + 1;
            halves[row] = 0;
        }

        private void exchange() {
            int[] kept = keys[A];
            keys[A] = keys[B];
            keys[B] = kept;
            kept = reals[A];
            reals[A] = reals[B];
            reals[B] = kept;
            kept = imaginaries[A];
            imaginaries[A] = imaginaries[B];
            imaginaries[B] = kept;
            int size = sizes[A];
            sizes[A] = sizes[B];
            sizes[B] = size;
            int half = halves[A];
            halves[A] = halves[B];
            halves[B] = half;
        }

        boolean addTerm(int xs, int zs, int p, int q) {
            sizes[FACTOR] = 0;
            halves[FACTOR] = 0;
            if (p != 0 || q != 0) {
                setTerm(FACTOR, 256 * xs + zs, p, q);
            }
            return add(FACTOR, 1);
        }

        boolean timesLadder(int j, boolean up) {
            int below = (1 << j) - 1;
            sizes[FACTOR] = 0;
            setTerm(FACTOR, 256 << j | below, 1, 0);
            setTerm(FACTOR, 256 << j | below | 1 << j, 0, up ? -1 : 1);
            halves[FACTOR] = 1;
            return multiply(A, FACTOR);
        }

        private boolean add(int row, int sign) {
            int most = Math.max(halves[A], halves[row]);
            if (isTooFar(A, most) || isTooFar(row, most)) {
                return false;
            }
            merge(row, most, sign);
            return settle(most);
        }

        private boolean isTooFar(int row, int most) {
            return sizes[row] > 0 && most - halves[row] > FURTHEST;
        }

        /** Both rows stand by their keys, so the lesser one of the next two comes next. */
        private void merge(int row, int most, int sign) {
            int i = 0;
            int j = 0;
            found = 0;
            while (i < sizes[A] || j < sizes[row]) {
                int one = i < sizes[A] ? keys[A][i] : NO_KEY;
                int two = j < sizes[row] ? keys[row][j] : NO_KEY;
                long p = 0;
                long q = 0;
                if (one <= two) {
                    p = (long) reals[A][i] << most - halves[A];
                    q = (long) imaginaries[A][i] << most - halves[A];
                    i++;
                }
                if (two <= one) {
                    p += sign * ((long) reals[row][j] << most - halves[row]);
                    q += sign * ((long) imaginaries[row][j] << most - halves[row]);
                    j++;
                }
                find(Math.min(one, two), p, q);
            }
        }

        private void find(int key, long p, long q) {
            if ((p | q) == 0) {
                return;
            }
            if (found < MOST_TERMS) {
                foundKeys[found] = key;
                foundReals[found] = p;
                foundImaginaries[found] = q;
            }
            found++;
        }

        /** By the x's of the product: so a row by z's alone is enough to gather in. */
        private boolean multiply(int left, int right) {
            findFirsts(right);
            found = 0;
            for (int xs = 0; xs < 256 && found <= MOST_TERMS; xs++) {
                boolean any = false;
                for (int i = 0; i < sizes[left]; i++) {
                    int other = keys[left][i] >> 8 ^ xs;
                    for (int j = firstOf[other]; j < firstOf[other + 1]; j++) {
                        gatherProduct(left, i, right, j);
                        any = true;
                    }
                }
                if (any) {
                    takeGathered(xs);
                }
            }
            return settle(halves[left] + halves[right]);
        }

        private void findFirsts(int row) {
            int at = 0;
            for (int xs = 0; xs <= 256; xs++) {
                while (at < sizes[row] && keys[row][at] >> 8 < xs) {
                    at++;
                }
                firstOf[xs] = at;
            }
        }

        private void gatherProduct(int left, int i, int right, int j) {
            int one = keys[left][i];
            int two = keys[right][j];
            int zs = (one ^ two) & 255;
            long p = (long) reals[left][i] * reals[right][j] - (long) imaginaries[left][i] * imaginaries[right][j];
            long q = (long) reals[left][i] * imaginaries[right][j] + (long) imaginaries[left][i] * reals[right][j];
            switch (Signs.quartersOfProduct(one >> 8, one & 255, two >> 8, two & 255)) {
                case 0: gather(zs, p, q); break;
                case 1: gather(zs, -q, p); break;
                case 2: gather(zs, -p, -q); break;
                default: gather(zs, q, -p); break;
            }
        }

        private void gather(int zs, long p, long q) {
            gatheredReals[zs] += p;
            gatheredImaginaries[zs] += q;
        }

        /** Nothing stays gathered. */
        private void takeGathered(int xs) {
            for (int zs = 0; zs < 256; zs++) {
                find(256 * xs + zs, gatheredReals[zs], gatheredImaginaries[zs]);
                gatheredReals[zs] = 0;
                gatheredImaginaries[zs] = 0;
            }
        }

        /** What was found becomes A, or is refused. */
        private boolean settle(int over) {
            if (found > MOST_TERMS) {
                return false;
            }
            int left = found == 0 ? 0 : over;
            while (left > 0 && allEven(found)) {
                left--;
                for (int i = 0; i < found; i++) {
                    foundReals[i] >>= 1;
                    foundImaginaries[i] >>= 1;
                }
            }
            return left <= MOST_HALVES && allFit(found) && becomeA(found, left);
        }

        private boolean allEven(int count) {
            for (int i = 0; i < count; i++) {
                if (((foundReals[i] | foundImaginaries[i]) & 1) != 0) {
                    return false;
                }
            }
            return true;
        }

        private boolean allFit(int count) {
            for (int i = 0; i < count; i++) {
                if (!fits(foundReals[i]) || !fits(foundImaginaries[i])) {
                    return false;
                }
            }
            return true;
        }

        private boolean becomeA(int count, int left) {
            for (int i = 0; i < count; i++) {
                keys[A][i] = foundKeys[i];
                reals[A][i] = (int) foundReals[i];
                imaginaries[A][i] = (int) foundImaginaries[i];
            }
            sizes[A] = count;
            halves[A] = left;
            return true;
        }

        boolean allCommute() {
            for (int i = 0; i < sizes[A]; i++) {
                for (int j = 0; j < sizes[B]; j++) {
                    int one = keys[A][i];
                    int two = keys[B][j];
                    if ((Integer.bitCount(one >> 8 & two) + Integer.bitCount(one & two >> 8) & 1) != 0) {
                        return false;
                    }
                }
            }
            return true;
        }
    }

    /** The DENSITY: D(i, j) is ROOT i + 2^N * j, so that gates act as on a STATE of twice as many WIRES. */
    private static final class Blur {
        final Roots roots = new Roots(64);
        int wires = 0;
        int hs = 0;
        int spoils = 0;

        void start(int width, int at) {
            wires = width;
            hs = 0;
            spoils = 0;
            roots.setOne(1 << 2 * width, at | at << width);
        }

        /** False if it would be one h too many. */
        boolean perform(int op) {
            int kind = Bank.kindOf(op);
            if (kind == H && hs >= 24) {
                return false;
            }
            hs += kind == H ? 1 : 0;
            if (kind < M) {
                roots.apply(op, 0, false);
                roots.apply(op, wires, true);
                return true;
            }
            int row = 1 << Bank.wireOf(op);
            int column = row << wires;
            roots.wipe(row | column, row);
            roots.wipe(row | column, column);
            if (kind == R) {
                pourDown(row | column);
            }
            return true;
        }

        private void pourDown(int both) {
            for (int i = 0; i < roots.size; i++) {
                if ((i & both) == 0) {
                    for (int part = 0; part < 4; part++) {
                        roots.parts[4 * i + part] += roots.parts[4 * (i | both) + part];
                    }
                    roots.wipeOne(i | both);
                }
            }
        }

        /** Over 16, which is r^8, or over 64, which is r^12. */
        boolean spoilWire(int row, int by, int k) {
            if (spoils >= 6) {
                return false;
            }
            spoils++;
            int both = row | row << wires;
            for (int i = 0; i < roots.size; i++) {
                if ((i & row) == 0) {
                    boolean alike = (i & both) == 0;
                    spoilPair(4 * i, 4 * (i ^ both), stays(by, k, alike), comes(by, k, alike));
                }
            }
            roots.power += by == 0 ? 12 : 8;
            return true;
        }

        /** How often D(i, j) stays; alike: i and j have the same value at the WIRE. */
        private static int stays(int by, int k, boolean alike) {
            if (by == 0) {
                return 64 - 4 * k + (alike ? 2 * k : 0);
            }
            return 16 - k + (by != 3 ? 0 : alike ? k : -k);
        }

        /** How often that with both values changed comes to it. */
        private static int comes(int by, int k, boolean alike) {
            if (by == 0) {
                return alike ? 2 * k : 0;
            }
            return by == 3 ? 0 : by == 1 || alike ? k : -k;
        }

        private void spoilPair(int i, int j, int stay, int come) {
            for (int part = 0; part < 4; part++) {
                long one = roots.parts[i + part];
                long two = roots.parts[j + part];
                roots.parts[i + part] = stay * one + come * two;
                roots.parts[j + part] = stay * two + come * one;
            }
        }

        int greatestPower() {
            long greatest = 0;
            for (int i = 0; i < roots.size; i++) {
                greatest = Math.max(greatest, roots.partAt(i, 4));
            }
            return (int) greatest;
        }

        /** Lowered first, for squares of the numbers as they are kept might be too great. */
        long purityPart(int part) {
            roots.lower();
            return roots.weightPart(0, 0, part);
        }
    }
}

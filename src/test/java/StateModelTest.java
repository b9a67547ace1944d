import java.util.Random;

/** Promises 10 to 18, 40 and 46 to 50 by lot, next to a model with plain complex numbers. */
public final class StateModelTest {
    private static final Check CHECK = new Check("states by lot");
    private static final String[] LETTERS = {"x", "y", "z", "h", "s", "t", "-s", "-t", "w", "m", "r"};
    private static final double ROOT = Math.sqrt(2);
    private static final double NEAR = 1e-7;
    /** How often u and v of a REAL were the same, and not 0. */
    private static int alikeSeen = 0;

    public static void main(String[] args) {
        Random random = new Random(1016);
        for (int round = 0; round < 400; round++) {
            runs(random, 1 + round % 4, 1 + random.nextInt(16));
        }
        for (int round = 0; round < 20; round++) {
            // 2:h1;h0;0>h1;-t1;1>h0; and 2:h1;0>h1;1>h0;0>h1;t1;
            run(random, 2, new int[][] {{3, 1, 0, 0, 0, 0}, {3, 0, 0, 0, 0, 0}, {3, 1, 0, 1, 0, 0}, {7, 1, 0, 0, 0, 0}, {3, 0, 0, 2, 0, 0}});
            run(random, 2, new int[][] {{3, 1, 0, 0, 0, 0}, {3, 1, 0, 1, 0, 0}, {3, 0, 0, 2, 0, 0}, {3, 1, 0, 1, 0, 0}, {5, 1, 0, 0, 0, 0}});
        }
        CHECK.yes("u and v were the same " + alikeSeen + " times", alikeSeen > 5);
        for (int round = 0; round < 200; round++) {
            densities(random, 1 + round % 3, 1 + random.nextInt(14));
        }
        for (int round = 0; round < 300; round++) {
            faults(random, 1 + round % 3, 1 + random.nextInt(12));
        }
        CHECK.end();
    }

    /** A PAULI ahead of an OP and another one behind all: both circuits are EQUAL, signs apart. */
    private static void faults(Random random, int wires, int count) {
        StringBuilder ahead = new StringBuilder(wires + ":");
        StringBuilder behind = new StringBuilder();
        int at = random.nextInt(count + 1);
        for (int i = 0; i < count; i++) {
            int[] op = drawn(random, wires, false);
            boolean two = wires > 1 && op[0] <= 2 && random.nextBoolean();
            op[3] = two ? 1 << (op[1] + 1) % wires : 0;
            op[0] = op[0] == 5 || op[0] > 8 ? 3 : op[0] == 7 ? 6 : op[0];
            (i < at ? ahead : behind).append(spelled(op));
        }
        int xs = random.nextInt(1 << wires);
        int zs = random.nextInt(1 << wires);
        RootHouse h = new RootHouse();
        int c = Check.circuit(h, ahead.toString() + behind);
        int newXs = h.faulty(c, at, xs, zs, 0);
        int newZs = h.faulty(c, at, xs, zs, 1);
        int one = Check.circuit(h, ahead + gates(xs, zs) + behind);
        int two = Check.circuit(h, ahead.toString() + behind + gates(newXs, newZs));
        CHECK.same(ahead + " " + xs + " " + zs + " " + behind, h.equal(one, two), 1);
        CHECK.same("no BITS", h.faulty(c, at, xs, zs, 2), 0);
    }

    private static String gates(int xs, int zs) {
        StringBuilder text = new StringBuilder();
        for (int i = 0; i < 8; i++) {
            int letter = (xs >> i & 1) + 2 * (zs >> i & 1);
            text.append(letter == 0 ? "" : "xzy".charAt(letter - 1) + "" + i + ";");
        }
        return text.toString();
    }

    /** kind, WIRE, second, CONTROLS, BITS that must be 1, that must be 0 */
    private static int[] drawn(Random random, int wires, boolean bits) {
        int kind = random.nextInt(wires == 1 || random.nextInt(3) > 0 ? 8 : 11);
        kind = kind == 8 && wires == 1 ? 3 : kind;
        int wire = random.nextInt(wires);
        int second = kind == 8 ? (wire + 1 + random.nextInt(wires - 1)) % wires : kind == 9 ? random.nextInt(4) : 0;
        int controls = kind > 8 ? 0 : random.nextInt(1 << wires) & random.nextInt(1 << wires) & ~(1 << wire);
        controls &= kind == 8 ? ~(1 << second) : -1;
        boolean asks = bits && random.nextInt(6) == 0;
        return new int[] {kind, wire, second, controls, asks ? random.nextInt(16) & random.nextInt(16) : 0,
            asks ? random.nextInt(16) & random.nextInt(16) : 0};
    }

    private static String spelled(int[] op) {
        StringBuilder text = new StringBuilder();
        for (int i = 0; i < 4; i++) {
            text.append((op[4] >> i & 1) != 0 ? "?" + i + "[" : "").append((op[5] >> i & 1) != 0 ? "!" + i + "[" : "");
        }
        String closing = "]".repeat(text.length() / 3);
        for (int i = 0; i < 8; i++) {
            text.append((op[3] >> i & 1) != 0 ? i + ">" : "");
        }
        text.append(LETTERS[op[0]]).append(op[1]).append(op[0] == 8 || op[0] == 9 ? "" + op[2] : "").append(";");
        return text + closing;
    }

    private static void runs(Random random, int wires, int count) {
        int[][] ops = new int[count][];
        for (int i = 0; i < count; i++) {
            ops[i] = drawn(random, wires, true);
        }
        run(random, wires, ops);
    }

    private static void run(Random random, int wires, int[][] ops) {
        Model model = new Model(1 << wires);
        StringBuilder text = new StringBuilder(wires + ":");
        int start = random.nextInt(1 << wires);
        long tape = random.nextLong();
        model.re[start] = 1;
        model.tape = tape;
        for (int[] op : ops) {
            text.append(spelled(op));
            if ((op[4] & ~model.bits) == 0 && (op[5] & model.bits) == 0) {
                model.step(op, 0, false);
            }
        }
        RootHouse h = new RootHouse();
        CHECK.yes("it begins", h.begin(Check.circuit(h, text.toString()), start, tape));
        CHECK.same(text + " OPS", h.run(400), ops.length);
        CHECK.same(text + " tape bits", h.state(2), model.taken);
        for (int i = 0; i < 4; i++) {
            CHECK.same(text + " BIT " + i, h.state(3 + i), model.bits >> i & 1);
        }
        int some = 0;
        for (int i = 0; i < 1 << wires; i++) {
            int at = i;
            root(text + " ROOT " + i, part -> h.amplitude(at, part), model.re[i], model.im[i]);
            some += model.isZero(i) ? 0 : 1;
        }
        CHECK.same(text + " STARTS", h.state(7), some);
        for (int i = 0; i < 16 && wires <= 2; i++) {
            int xs = i & (1 << wires) - 1;
            int zs = i >> 2 & (1 << wires) - 1;
            real(text + " EXPECTED " + xs + " " + zs, part -> h.expected(xs, zs, part), model.expected(xs, zs));
            alikeSeen += h.expected(xs, zs, 2) > 0 && h.expected(xs, zs, 0) == h.expected(xs, zs, 1) ? 1 : 0;
        }
        for (int i = 0; i < 8; i++) {
            int set = random.nextInt(1 << wires);
            int values = random.nextInt(1 << wires) & set;
            real(text + " WEIGHT", part -> h.weight(set, values, part), model.weight(set, values));
            int xs = random.nextInt(1 << wires);
            int zs = random.nextInt(1 << wires);
            real(text + " EXPECTED " + xs + " " + zs, part -> h.expected(xs, zs, part), model.expected(xs, zs));
        }
        mixtures(text.toString(), h, model, wires);
        for (int level = 0; level <= wires; level++) {
            CHECK.same(text + " NODES at " + level, h.nodes(level), model.nodes(level));
        }
        group(text.toString(), h, model, wires);
    }

    private static void mixtures(String text, RootHouse h, Model model, int wires) {
        for (int at = 0; at < 4 * wires; at++) {
            int wire = at / 4;
            int row = at >> 1 & 1;
            int column = at & 1;
            double re = 0;
            double im = 0;
            for (int i = 0; i < 1 << wires; i++) {
                if ((i >> wire & 1) == 0) {
                    int a = i | row << wire;
                    int b = i | column << wire;
                    re += model.re[a] * model.re[b] + model.im[a] * model.im[b];
                    im += model.im[a] * model.re[b] - model.re[a] * model.im[b];
                }
            }
            root(text + " mixed", part -> h.mixed(wire, row, column, part), re, im);
        }
    }

    /** As many ROWS as tell all PAULIS that keep the STATE, or take it to its opposite; and each is one. */
    private static void group(String text, RootHouse h, Model model, int wires) {
        double whole = model.weight(0, 0);
        int kept = 0;
        for (int pauli = 0; pauli < 1 << 2 * wires; pauli++) {
            double expected = model.expected(pauli & (1 << wires) - 1, pauli >> wires);
            kept += Math.abs(Math.abs(expected) - whole) < NEAR * whole ? 1 : 0;
        }
        int rows = h.group(-1, 0);
        CHECK.same(text + " ROWS", 1 << rows, kept);
        int before = -1;
        for (int i = 0; i < rows; i++) {
            int xs = h.group(i, 0);
            int zs = h.group(i, 1);
            double expected = model.expected(xs, zs);
            CHECK.yes(text + " ROW " + i, Math.abs(expected - (h.group(i, 2) == 0 ? whole : -whole)) < NEAR * whole);
            int first = Integer.numberOfTrailingZeros(xs | zs << wires);
            CHECK.yes(text + " its first 1 is further on", first > before);
            before = first;
            for (int j = 0; j < rows; j++) {
                int other = h.group(j, 0) | h.group(j, 1) << wires;
                CHECK.same(text + " the others have 0 there", other >> first & 1, i == j ? 1 : 0);
            }
        }
    }

    /** D(i, j) is a STATE of twice as many WIRES: gates act on i, and their conjugates on j. */
    private static void densities(Random random, int wires, int count) {
        int size = 1 << wires;
        Model model = new Model(size * size);
        int start = random.nextInt(size);
        model.re[start * (size + 1)] = 1;
        RootHouse h = new RootHouse();
        CHECK.yes("it begins", h.density(wires, start));
        int spoils = 0;
        StringBuilder log = new StringBuilder();
        for (int i = 0; i < count; i++) {
            int[] op = drawn(random, wires, false);
            log.append(spelled(op));
            h.clear();
            Check.circuit(h, wires + ":" + spelled(op));
            CHECK.yes(log.toString(), h.mix(0, 0));
            model.mix(op, wires);
            if (random.nextInt(5) == 0 && spoils < 6) {
                int wire = random.nextInt(wires);
                int by = random.nextInt(4);
                int k = 1 + random.nextInt(16);
                log.append("(").append(wire).append(",").append(by).append(",").append(k).append(")");
                CHECK.yes(log.toString(), h.spoil(wire, by, k));
                model.spoil(wire, by, k, wires);
                spoils++;
            }
        }
        double purity = 0;
        long most = 0;
        for (int at = 0; at < size * size; at++) {
            int i = at % size;
            int j = at / size;
            purity += model.re[at] * model.re[at] + model.im[at] * model.im[at];
            root(log + " D(" + i + ", " + j + ")", part -> h.entry(i, j, part), model.re[at], model.im[at]);
            most = Math.max(most, h.entry(i, j, 4));
        }
        if (most > 50) {
            CHECK.same(log + " PURITY", Check.said(() -> h.purity(0)), "ArithmeticException");
        } else {
            real(log + " PURITY", h::purity, purity);
        }
    }

    private static void root(String what, java.util.function.IntToLongFunction part, double re, double im) {
        long a = part.applyAsLong(0);
        long b = part.applyAsLong(1);
        long c = part.applyAsLong(2);
        long d = part.applyAsLong(3);
        long k = part.applyAsLong(4);
        double by = Math.pow(ROOT, -k);
        boolean near = Math.abs((a + (b - d) / ROOT) * by - re) < NEAR && Math.abs((c + (b + d) / ROOT) * by - im) < NEAR;
        CHECK.yes(what + " is " + a + " " + b + " " + c + " " + d + " over " + k + ", due is " + re + " " + im, near);
        boolean zero = (a | b | c | d) == 0;
        CHECK.yes(what + " has the least k", k == 0 || k > 0 && !zero && ((a - c) % 2 != 0 || (b - d) % 2 != 0));
    }

    private static void real(String what, java.util.function.IntToLongFunction part, double due) {
        long u = part.applyAsLong(0);
        long v = part.applyAsLong(1);
        long k = part.applyAsLong(2);
        boolean near = Math.abs((u + v * ROOT) * Math.pow(2, -k) - due) < NEAR;
        CHECK.yes(what + " is " + u + " " + v + " over " + k + ", due is " + due, near);
        CHECK.yes(what + " has the least k", k == 0 || k > 0 && (u % 2 != 0 || v % 2 != 0));
    }

    /** Complex numbers by START. */
    private static final class Model {
        final double[] re;
        final double[] im;
        int bits;
        int taken;
        long tape;

        Model(int size) {
            re = new double[size];
            im = new double[size];
        }

        boolean isZero(int i) {
            return Math.abs(re[i]) < NEAR && Math.abs(im[i]) < NEAR;
        }

        double weight(int set, int values) {
            double sum = 0;
            for (int i = 0; i < re.length; i++) {
                sum += (i & set) == values ? re[i] * re[i] + im[i] * im[i] : 0;
            }
            return sum;
        }

        void turn(int i, double angle) {
            double kept = re[i];
            re[i] = re[i] * Math.cos(angle) - im[i] * Math.sin(angle);
            im[i] = kept * Math.sin(angle) + im[i] * Math.cos(angle);
        }

        void exchange(int i, int j) {
            double kept = re[i];
            re[i] = re[j];
            re[j] = kept;
            kept = im[i];
            im[i] = im[j];
            im[j] = kept;
        }

        void step(int[] op, int shift, boolean conjugate) {
            int bit = 1 << op[1] + shift;
            if (op[0] >= 9) {
                observe(op, bit);
                return;
            }
            int other = 1 << op[2] + shift;
            int need = op[3] << shift;
            for (int i = 0; i < re.length; i++) {
                if ((i & need) != need) {
                    continue;
                }
                if (op[0] == 8) {
                    if ((i & bit) != 0 && (i & other) == 0) {
                        exchange(i, i ^ bit ^ other);
                    }
                } else if ((i & bit) == 0) {
                    gate(op[0], i, i | bit, conjugate ? -1 : 1);
                }
            }
        }

        private void gate(int kind, int low, int high, int sign) {
            double[] eighths = {0, 0, 4, 0, 2, 1, 6, 7};
            if (kind == 0 || kind == 1) {
                exchange(low, high);
            }
            if (kind == 1) {
                turn(low, -sign * Math.PI / 2);
                turn(high, sign * Math.PI / 2);
            } else if (kind == 3) {
                double x = re[low];
                double y = im[low];
                re[low] = (x + re[high]) / ROOT;
                im[low] = (y + im[high]) / ROOT;
                re[high] = (x - re[high]) / ROOT;
                im[high] = (y - im[high]) / ROOT;
            } else {
                turn(high, sign * eighths[kind] * Math.PI / 4);
            }
        }

        private void observe(int[] op, int bit) {
            boolean one = weight(bit, bit) > NEAR * NEAR;
            if (one && weight(bit, 0) > NEAR * NEAR) {
                one = (tape >>> taken & 1) != 0;
                taken++;
            }
            for (int i = 0; i < re.length; i++) {
                if ((i & bit) != 0 != one) {
                    re[i] = 0;
                    im[i] = 0;
                }
            }
            if (op[0] == 9) {
                bits = one ? bits | 1 << op[2] : bits & ~(1 << op[2]);
            } else if (one) {
                step(new int[] {0, op[1], 0, 0}, 0, false);
            }
        }

        double expected(int xs, int zs) {
            double sum = 0;
            for (int i = 0; i < re.length; i++) {
                int from = i ^ xs;
                int quarters = Integer.bitCount(xs & zs) + 2 * Integer.bitCount(zs & from);
                double x = quarters % 2 == 0 ? re[from] : -im[from];
                double y = quarters % 2 == 0 ? im[from] : re[from];
                double by = quarters % 4 < 2 ? 1 : -1;
                sum += by * (re[i] * x + im[i] * y);
            }
            return sum;
        }

        int nodes(int level) {
            int count = 0;
            int step = 1 << level;
            for (int one = 0; one < step; one++) {
                boolean isNew = weight(step - 1, one) > NEAR * NEAR;
                for (int two = 0; two < one && isNew; two++) {
                    isNew = weight(step - 1, two) <= NEAR * NEAR || !alike(one, two, step);
                }
                count += isNew ? 1 : 0;
            }
            return count;
        }

        private boolean alike(int one, int two, int step) {
            for (int i = 0; i < re.length; i += step) {
                for (int j = 0; j < i; j += step) {
                    double x = re[one + i] * re[two + j] - im[one + i] * im[two + j] - re[one + j] * re[two + i] + im[one + j] * im[two + i];
                    double y = re[one + i] * im[two + j] + im[one + i] * re[two + j] - re[one + j] * im[two + i] - im[one + j] * re[two + i];
                    if (Math.abs(x) + Math.abs(y) > NEAR) {
                        return false;
                    }
                }
            }
            return true;
        }

        void mix(int[] op, int wires) {
            if (op[0] < 9) {
                step(op, 0, false);
                step(op, wires, true);
                return;
            }
            int row = 1 << op[1];
            int column = row << wires;
            for (int i = 0; i < re.length; i++) {
                if ((i & row) != 0 != ((i & column) != 0)) {
                    re[i] = 0;
                    im[i] = 0;
                }
            }
            for (int i = 0; i < re.length && op[0] == 10; i++) {
                if ((i & (row | column)) == 0) {
                    re[i] += re[i | row | column];
                    im[i] += im[i | row | column];
                    re[i | row | column] = 0;
                    im[i | row | column] = 0;
                }
            }
        }

        void spoil(int wire, int by, int k, int wires) {
            double[] x = new double[re.length];
            double[] y = new double[re.length];
            for (int pauli = 0; pauli < 4; pauli++) {
                double part = by == 0 ? k / 64.0 + (pauli == 0 ? 1 - k / 16.0 : 0) : pauli == by ? k / 16.0 : pauli == 0 ? 1 - k / 16.0 : 0;
                Model other = new Model(re.length);
                System.arraycopy(re, 0, other.re, 0, re.length);
                System.arraycopy(im, 0, other.im, 0, im.length);
                if (pauli > 0) {
                    other.mix(new int[] {pauli - 1, wire, 0, 0}, wires);
                }
                for (int i = 0; i < re.length; i++) {
                    x[i] += part * other.re[i];
                    y[i] += part * other.im[i];
                }
            }
            System.arraycopy(x, 0, re, 0, re.length);
            System.arraycopy(y, 0, im, 0, im.length);
        }
    }
}

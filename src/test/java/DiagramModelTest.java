import java.util.Random;

/** Promises 25 to 28: DIAGRAMS of circuits drawn by lot, next to a model that does what the document says word by word. */
public final class DiagramModelTest {
    private static final Check CHECK = new Check("diagrams by lot");
    private static final String[] LETTERS = {"x", "y", "z", "h", "s", "t", "-s", "-t", "w"};
    private static final int[] PHASE_OF = {0, 0, 4, 0, 2, 1, 6, 7};
    /** How often a RULE was done, 1 .. 4, and EDGES came together: 5 PLAIN twice, 6 TURNED twice, 7 both kinds. */
    private static final int[] SEEN = new int[8];

    public static void main(String[] args) {
        Random random = new Random(2528);
        for (int round = 0; round < 6000; round++) {
            compare(random, 1 + random.nextInt(3), 2 + random.nextInt(12), round % 3);
        }
        for (int round = 0; round < 200; round++) {
            compare(random, 4, 2 + random.nextInt(10), round % 3);
        }
        for (int i = 1; i < 5; i++) {
            CHECK.yes("RULE " + i + " was done " + SEEN[i] + " times", SEEN[i] > 20);
        }
        CHECK.yes("TURNED EDGES came together " + SEEN[6] + " times", SEEN[6] > 20);
        CHECK.yes("PLAIN and TURNED ones came together " + SEEN[7] + " times", SEEN[7] > 5);
        CHECK.end();
    }

    private static void compare(Random random, int wires, int count, int taste) {
        Model model = new Model(wires);
        StringBuilder text = new StringBuilder(wires + ":");
        fringe(model, text, wires, taste == 1 ? "t" : "");
        for (int i = 0; i < count; i++) {
            text.append(drawn(random, model, wires, taste));
        }
        fringe(model, text, wires, taste == 1 ? "h" : "");
        model.end();
        RootHouse h = new RootHouse();
        int c = Check.circuit(h, text.toString());
        CHECK.same(text.toString(), h.diagram(c), model.made);
        StringBuilder log = new StringBuilder(text);
        for (int i = 0; i < 200; i++) {
            int rule = 1 + random.nextInt(4);
            int a = 2 * wires + random.nextInt(model.made - 2 * wires + 1) - random.nextInt(2);
            int b = random.nextInt(model.made);
            boolean can = model.rule(rule, a, b);
            if (can || i % 20 == 0) {
                log.append(" ").append(rule).append(",").append(a).append(",").append(b);
                CHECK.same(log.toString(), h.rewrite(rule, a, b) ? 1 : 0, can ? 1 : 0);
            }
        }
        int input = random.nextInt(1 << wires);
        int output = random.nextInt(1 << wires);
        sameMeaning(log.toString(), h, model, input, output);
        CHECK.same(log + " reduced", h.reduce(), model.reduce());
        sameMeaning(log + " reduced", h, model, input, output);
        sameEdges(log.toString(), h, model);
    }

    /** With t and h between them and its ends a circuit's OPS are far from INPUTS and OUTPUTS: more RULES can be done. */
    private static void fringe(Model model, StringBuilder text, int wires, String first) {
        for (int i = 0; i < wires && !first.isEmpty(); i++) {
            model.gate(first.equals("t") ? 5 : 3, i);
            model.gate(first.equals("t") ? 3 : 5, i);
            text.append(first.equals("t") ? "t" + i + ";h" + i + ";" : "h" + i + ";t" + i + ";");
        }
    }

    private static void sameMeaning(String log, RootHouse h, Model model, int input, int output) {
        int count = 0;
        for (int i = 2 * model.wires; i < model.made; i++) {
            count += model.there[i] ? 1 : 0;
        }
        if (count <= 9) {
            CHECK.row(log + " means", part -> h.meaning(input, output, part), 0, model.meaning(input, output));
        } else if (count > 12) {
            CHECK.same(log, Check.said(() -> h.meaning(input, output, 0)), "IllegalStateException");
        }
    }

    private static void sameEdges(String log, RootHouse h, Model model) {
        int there = 0;
        int asked = 0;
        for (int i = 0; i < model.made; i++) {
            there += model.there[i] ? 1 : 0;
            CHECK.same(log + " PHASE of " + i, h.spider(i, 0), model.there[i] ? model.phase[i] : -1);
            for (int j = 0; j < i && model.there[i] && asked < 380; j++) {
                asked += model.there[j] ? 1 : 0;
                if (model.there[j]) {
                    CHECK.same(log + " EDGE of " + i + " and " + j, h.spider(i, 100 + j), model.edge[i][j]);
                }
            }
        }
        CHECK.same(log + " SPIDERS", h.total(3), there);
    }

    /** An OP by lot: it goes to the model, and its text is answered. */
    private static String drawn(Random random, Model model, int wires, int taste) {
        int a = random.nextInt(wires);
        int b = random.nextInt(wires);
        boolean two = a != b && random.nextInt(taste == 1 ? 2 : 3) == 0;
        int kind = two ? new int[] {0, 2, 2, 8}[random.nextInt(4)] : random.nextInt(8);
        if (!two && taste == 1) {
            kind = new int[] {3, 4, 4, 4, 6, 2, 0, 3}[kind];
        } else if (!two && taste == 2) {
            kind = new int[] {3, 3, 3, 2, 2, 2, 5, 3}[kind];
        }
        if (two && kind == 8) {
            model.exchange(a, b);
            return "w" + a + b + ";";
        }
        if (two) {
            model.controlled(kind, a, b);
            return a + ">" + LETTERS[kind] + b + ";";
        }
        model.gate(kind, a);
        return LETTERS[kind] + a + ";";
    }

    /** The document's words, with a table of EDGES. */
    private static final class Model {
        final int[][] edge = new int[80][80];
        final int[] phase = new int[80];
        final boolean[] there = new boolean[80];
        final int[] end;
        final boolean[] twisted;
        final int wires;
        int made;

        Model(int wires) {
            this.wires = wires;
            end = new int[wires];
            twisted = new boolean[wires];
            for (int i = 0; i < 2 * wires; i++) {
                there[i] = true;
            }
            for (int i = 0; i < wires; i++) {
                end[i] = i;
            }
            made = 2 * wires;
        }

        void put(int wire, int eighths) {
            phase[made] = eighths;
            there[made] = true;
            set(made, end[wire], twisted[wire] ? 2 : 1);
            end[wire] = made;
            twisted[wire] = false;
            made++;
        }

        void set(int a, int b, int kind) {
            edge[a][b] = kind;
            edge[b][a] = kind;
        }

        void gate(int kind, int wire) {
            if (kind == 3) {
                twisted[wire] = !twisted[wire];
            } else if (kind == 0) {
                gate(3, wire);
                gate(2, wire);
                gate(3, wire);
            } else if (kind == 1) {
                gate(2, wire);
                gate(0, wire);
            } else {
                put(wire, PHASE_OF[kind]);
            }
        }

        void controlled(int kind, int control, int wire) {
            if (kind == 0) {
                gate(3, wire);
            }
            put(control, 0);
            put(wire, 0);
            set(end[control], end[wire], 2);
            if (kind == 0) {
                gate(3, wire);
            }
        }

        void exchange(int a, int b) {
            int kept = end[a];
            end[a] = end[b];
            end[b] = kept;
            boolean was = twisted[a];
            twisted[a] = twisted[b];
            twisted[b] = was;
        }

        void end() {
            for (int i = 0; i < wires; i++) {
                set(wires + i, end[i], twisted[i] ? 2 : 1);
            }
        }

        void come(int a, int b, int kind) {
            int old = edge[a][b];
            if (old == 0) {
                set(a, b, kind);
            } else if (old == 1 && kind == 1) {
                SEEN[5]++;
            } else if (old == 2 && kind == 2) {
                SEEN[6]++;
                set(a, b, 0);
            } else {
                SEEN[7]++;
                set(a, b, 1);
                grow(Math.min(a, b), 4);
            }
        }

        void grow(int a, int eighths) {
            phase[a] = (phase[a] + eighths) % 8;
        }

        boolean inner(int a) {
            return a >= 2 * wires && there[a];
        }

        void gone(int a) {
            there[a] = false;
            for (int i = 0; i < made; i++) {
                set(a, i, 0);
            }
        }

        boolean rule(int rule, int a, int b) {
            boolean done = inner(a) && (rule == 1 ? first(a, b) : rule == 2 ? second(a) : rule == 3 ? third(a) : fourth(a, b));
            SEEN[rule] += done ? 1 : 0;
            return done;
        }

        boolean first(int a, int b) {
            if (!inner(b) || a >= b || edge[a][b] != 1) {
                return false;
            }
            int[] others = edge[b].clone();
            int eighths = phase[b];
            gone(b);
            grow(a, eighths);
            for (int i = 0; i < made; i++) {
                if (i != a && others[i] != 0) {
                    come(a, i, others[i]);
                }
            }
            return true;
        }

        boolean second(int a) {
            int count = 0;
            int[] ends = new int[2];
            for (int i = 0; i < made; i++) {
                if (edge[a][i] != 0) {
                    ends[Math.min(count, 1)] = i;
                    count++;
                }
            }
            if (phase[a] != 0 || count != 2 || ends[0] < 2 * wires && ends[1] < 2 * wires) {
                return false;
            }
            int kind = edge[a][ends[0]] == edge[a][ends[1]] ? 1 : 2;
            gone(a);
            come(ends[0], ends[1], kind);
            return true;
        }

        /** Whether all EDGES of a SPIDER, but one to b, are TURNED and to no INPUT or OUTPUT. */
        boolean free(int a, int b) {
            for (int i = 0; i < made; i++) {
                if (i != b && edge[a][i] != 0 && (edge[a][i] != 2 || i < 2 * wires)) {
                    return false;
                }
            }
            return true;
        }

        boolean noPlain(boolean[] near) {
            for (int i = 0; i < made; i++) {
                for (int j = 0; j < made; j++) {
                    if (near[i] && near[j] && edge[i][j] == 1) {
                        return false;
                    }
                }
            }
            return true;
        }

        boolean third(int a) {
            boolean[] near = new boolean[made];
            for (int i = 0; i < made; i++) {
                near[i] = edge[a][i] != 0;
            }
            if (phase[a] != 2 && phase[a] != 6 || !free(a, -1) || !noPlain(near)) {
                return false;
            }
            int eighths = 8 - phase[a];
            gone(a);
            for (int i = 0; i < made; i++) {
                for (int j = i + 1; j < made; j++) {
                    if (near[i] && near[j]) {
                        come(i, j, 2);
                    }
                }
                if (near[i]) {
                    grow(i, eighths);
                }
            }
            return true;
        }

        boolean fourth(int a, int b) {
            if (!inner(b) || a >= b || edge[a][b] != 2 || phase[a] % 4 != 0 || phase[b] % 4 != 0 || !free(a, b) || !free(b, a)) {
                return false;
            }
            boolean[] near = new boolean[made];
            int[] part = new int[made];
            for (int i = 0; i < made; i++) {
                near[i] = i != a && i != b && (edge[a][i] != 0 || edge[b][i] != 0);
                part[i] = !near[i] ? 0 : edge[b][i] == 0 ? 1 : edge[a][i] == 0 ? 2 : 3;
            }
            if (!noPlain(near)) {
                return false;
            }
            int ofA = phase[a];
            int ofB = phase[b];
            gone(a);
            gone(b);
            for (int i = 0; i < made; i++) {
                for (int j = i + 1; j < made; j++) {
                    if (near[i] && near[j] && part[i] != part[j]) {
                        come(i, j, 2);
                    }
                }
                grow(i, part[i] == 1 ? ofB : part[i] == 2 ? ofA : part[i] == 3 ? ofA + ofB + 4 : 0);
            }
            return true;
        }

        /** a to d and k of the MEANING: the sum over all ways. */
        long[] meaning(int input, int output) {
            long[] sum = new long[5];
            int[] value = new int[made];
            for (int i = 0; i < wires; i++) {
                value[i] = input >> i & 1;
                value[wires + i] = output >> i & 1;
            }
            sumUp(2 * wires, value, sum);
            return sum;
        }

        private void sumUp(int next, int[] value, long[] sum) {
            if (next < made) {
                for (int bit = 0; bit <= (there[next] ? 1 : 0); bit++) {
                    value[next] = bit;
                    sumUp(next + 1, value, sum);
                }
                return;
            }
            int eighths = 0;
            for (int i = 0; i < made; i++) {
                eighths += phase[i] * value[i];
                for (int j = 0; j < i; j++) {
                    if (edge[i][j] == 1 && value[i] != value[j]) {
                        return;
                    }
                    eighths += edge[i][j] == 2 ? 4 * value[i] * value[j] : 0;
                }
            }
            sum[eighths % 4] += eighths % 8 < 4 ? 1 : -1;
        }

        int reduce() {
            int count = 0;
            while (reduceOnce()) {
                count++;
            }
            return count;
        }

        private boolean reduceOnce() {
            for (int rule = 1; rule <= 4; rule++) {
                for (int a = 0; a < made; a++) {
                    for (int b = 0; b < made; b++) {
                        if (rule(rule, a, b)) {
                            return true;
                        }
                    }
                }
            }
            return false;
        }
    }
}

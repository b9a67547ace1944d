import java.util.ArrayList;
import java.util.List;
import java.util.Random;

/** Promises 9 and 51 by lot, next to models that do what the document says word by word (SHORTEST is in SearchModelTest). */
public final class DeriveModelTest {
    private static final Check CHECK = new Check("derived circuits by lot");
    private static final String[] LETTERS = {"x", "y", "z", "h", "s", "t", "-s", "-t", "w"};
    private static final int[] EIGHTHS = {0, 0, 4, 0, 2, 1, 6, 7, 0};
    private static final String[] TURNED = {"", "t", "s", "s t", "z", "z t", "-s", "-t"};

    public static void main(String[] args) {
        Random random = new Random(951);
        for (int round = 0; round < 800; round++) {
            int wires = 1 + random.nextInt(4);
            List<int[]> c = drawn(random, wires, random.nextInt(14), false);
            List<int[]> d = drawn(random, wires, random.nextInt(6), false);
            derive(wires, 0, c, d, inverse(c));
            derive(wires, 1, c, d, joined(c, d));
            derive(wires, 2, c, d, controlled(c, 1 << wires));
            derive(wires, 3, c, d, joined(joined(d, c), inverse(d)));
            derive(wires, 5, c, d, cancelled(c));
            List<int[]> e = drawn(random, wires, random.nextInt(20), true);
            derive(wires, 4, e, d, merged(e));
            derive(wires, 5, e, d, cancelled(e));
            turn(random, wires, d);
        }
        CHECK.end();
    }

    /** kind, WIRE, second, CONTROLS; plain: those that can be MERGED */
    private static List<int[]> drawn(Random random, int wires, int count, boolean plain) {
        List<int[]> ops = new ArrayList<>();
        int[] kinds = {0, 0, 0, 2, 4, 5, 5, 6, 7, 8};
        for (int i = 0; i < count; i++) {
            int kind = plain ? kinds[random.nextInt(10)] : random.nextInt(9);
            kind = kind == 8 && wires == 1 ? 0 : kind;
            int wire = random.nextInt(wires);
            int second = kind == 8 ? (wire + 1 + random.nextInt(wires - 1)) % wires : 0;
            int others = ((1 << wires) - 1) & ~(1 << wire) & ~(kind == 8 ? 1 << second : 0);
            int controls = others & random.nextInt(16) & random.nextInt(16);
            if (plain) {
                controls = kind == 0 && random.nextBoolean() ? Integer.lowestOneBit(others & random.nextInt(16)) : 0;
            }
            ops.add(new int[] {kind, wire, second, controls});
        }
        return ops;
    }

    private static String spelled(int wires, List<int[]> ops) {
        StringBuilder text = new StringBuilder(wires + ":");
        for (int[] op : ops) {
            for (int i = 0; i < 8; i++) {
                text.append((op[3] >> i & 1) != 0 ? i + ">" : "");
            }
            text.append(LETTERS[op[0]]).append(op[1]).append(op[0] == 8 ? "" + op[2] : "").append(";");
        }
        return text.toString();
    }

    private static void derive(int wires, int how, List<int[]> c, List<int[]> d, List<int[]> due) {
        RootHouse h = new RootHouse();
        String one = spelled(wires, c);
        String two = spelled(wires, d);
        Check.circuit(h, one);
        Check.circuit(h, two);
        CHECK.same(how + " of " + one + " " + two, h.derive(how, 0, 1), 2);
        CHECK.same(how + " of " + one + " " + two, Check.written(h, 2), spelled(how == 2 ? wires + 1 : wires, due));
        if (how == 4 || how == 5) {
            CHECK.same(one + " is EQUAL", h.equal(0, 2), 1);
        }
    }

    private static List<int[]> inverse(List<int[]> ops) {
        List<int[]> back = new ArrayList<>();
        int[] kinds = {0, 1, 2, 3, 6, 7, 4, 5, 8};
        for (int[] op : ops) {
            back.add(0, new int[] {kinds[op[0]], op[1], op[2], op[3]});
        }
        return back;
    }

    private static List<int[]> joined(List<int[]> one, List<int[]> two) {
        List<int[]> both = new ArrayList<>(one);
        both.addAll(two);
        return both;
    }

    private static List<int[]> controlled(List<int[]> ops, int control) {
        List<int[]> more = new ArrayList<>();
        for (int[] op : ops) {
            more.add(new int[] {op[0], op[1], op[2], op[3] | control});
        }
        return more;
    }

    private static int wiresOf(int[] op) {
        return 1 << op[1] | (op[0] == 8 ? 1 << op[2] : 0) | op[3];
    }

    private static List<int[]> cancelled(List<int[]> ops) {
        List<int[]> left = new ArrayList<>();
        for (int[] op : ops) {
            left.add(op.clone());
        }
        boolean more = true;
        while (more) {
            more = cancelOne(left);
        }
        return left;
    }

    private static boolean cancelOne(List<int[]> ops) {
        for (int i = 0; i < ops.size(); i++) {
            for (int j = i + 1; j < ops.size(); j++) {
                boolean free = true;
                for (int between = i + 1; between < j; between++) {
                    free &= (wiresOf(ops.get(between)) & wiresOf(ops.get(i))) == 0;
                }
                if (free && together(ops, i, j)) {
                    return true;
                }
            }
        }
        return false;
    }

    private static boolean together(List<int[]> ops, int i, int j) {
        int[] one = ops.get(i);
        int[] two = ops.get(j);
        if (one[3] != two[3]) {
            return false;
        }
        boolean exchange = one[0] == 8 && two[0] == 8 && wiresOf(one) == wiresOf(two);
        boolean same = one[0] <= 3 && one[0] == two[0] && one[1] == two[1];
        if (exchange || same) {
            ops.remove(j);
            ops.remove(i);
            return true;
        }
        if (EIGHTHS[one[0]] == 0 || EIGHTHS[two[0]] == 0 || one[1] != two[1]) {
            return false;
        }
        int sum = (EIGHTHS[one[0]] + EIGHTHS[two[0]]) % 8;
        if (sum == 3 || sum == 5) {
            return false;
        }
        ops.remove(j);
        if (sum == 0) {
            ops.remove(i);
        } else {
            one[0] = new int[] {0, 5, 4, 0, 2, 0, 6, 7}[sum];
        }
        return true;
    }

    private static List<int[]> merged(List<int[]> ops) {
        int[] told = new int[16];
        List<int[]> left = new ArrayList<>();
        for (int pass = 0; pass < 2; pass++) {
            int[] parity = {1, 2, 4, 8};
            boolean[] turned = new boolean[4];
            boolean[] stands = new boolean[16];
            for (int[] op : ops) {
                int wire = op[1];
                if (op[0] == 8) {
                    int kept = parity[wire];
                    parity[wire] = parity[op[2]];
                    parity[op[2]] = kept;
                    boolean was = turned[wire];
                    turned[wire] = turned[op[2]];
                    turned[op[2]] = was;
                } else if (op[0] == 0 && op[3] == 0) {
                    turned[wire] = !turned[wire];
                } else if (op[0] == 0) {
                    int control = Integer.numberOfTrailingZeros(op[3]);
                    parity[wire] ^= parity[control];
                    turned[wire] ^= turned[control];
                } else if (pass == 0) {
                    told[parity[wire]] += turned[wire] ? 8 - EIGHTHS[op[0]] : EIGHTHS[op[0]];
                } else if (!stands[parity[wire]]) {
                    stands[parity[wire]] = true;
                    int all = told[parity[wire]] % 8;
                    putEighths(left, wire, turned[wire] ? (8 - all) % 8 : all);
                }
                if (pass == 1 && (op[0] == 0 || op[0] == 8)) {
                    left.add(op);
                }
            }
        }
        return left;
    }

    private static void putEighths(List<int[]> ops, int wire, int eighths) {
        for (String letter : TURNED[eighths].split(" ")) {
            if (!letter.isEmpty()) {
                ops.add(new int[] {java.util.Arrays.asList(LETTERS).indexOf(letter), wire, 0, 0});
            }
        }
    }

    private static void turn(Random random, int wires, List<int[]> c) {
        int xs = random.nextInt(1 << wires);
        int zs = random.nextInt(1 << wires);
        int e = random.nextInt(8);
        List<int[]> due = new ArrayList<>(c);
        List<Integer> own = new ArrayList<>();
        for (int i = 0; i < wires; i++) {
            boolean x = (xs >> i & 1) != 0;
            boolean z = (zs >> i & 1) != 0;
            if (x || z) {
                own.add(i);
            }
            if (x && z) {
                due.add(new int[] {6, i, 0, 0});
            }
            if (x) {
                due.add(new int[] {3, i, 0, 0});
            }
        }
        for (int i = 0; i + 1 < own.size(); i++) {
            due.add(new int[] {0, own.get(i + 1), 0, 1 << own.get(i)});
        }
        if (!own.isEmpty()) {
            putEighths(due, own.get(own.size() - 1), e);
        }
        for (int i = own.size() - 2; i >= 0; i--) {
            due.add(new int[] {0, own.get(i + 1), 0, 1 << own.get(i)});
        }
        for (int i = 0; i < wires; i++) {
            if ((xs >> i & 1) != 0) {
                due.add(new int[] {3, i, 0, 0});
                if ((zs >> i & 1) != 0) {
                    due.add(new int[] {4, i, 0, 0});
                }
            }
        }
        RootHouse h = new RootHouse();
        Check.circuit(h, spelled(wires, c));
        int d = h.turn(0, xs, zs, e);
        CHECK.same("a TURN", d, own.isEmpty() ? -1 : 1);
        if (d == 1) {
            CHECK.same("a TURN", Check.written(h, 1), spelled(wires, due));
        }
    }
}

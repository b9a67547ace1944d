import java.util.ArrayDeque;
import java.util.ArrayList;
import java.util.HashMap;
import java.util.HashSet;
import java.util.List;
import java.util.Map;
import java.util.Random;
import java.util.Set;
import java.util.TreeSet;

/** Promises 9 (SHORTEST), 33, 34, 35, 37, 38, 39, 52 and 54 by lot, next to models that look through all there is, in order. */
public final class SearchModelTest {
    private static final Check CHECK = new Check("searches by lot");

    public static void main(String[] args) {
        Random random = new Random(3537);
        routes(random);
        leastOnes(random);
        games(random);
        kin(random);
        costs(random);
        shortest(random);
        forms(random);
        CHECK.end();
    }

    /** All places, by fewest SWAPS, then by LINKS' numbers: the first queue that comes to the end has the least WAY. */
    private static void routes(Random random) {
        for (int round = 0; round < 700; round++) {
            int width = 2 + random.nextInt(5);
            int count = 1 + random.nextInt(round % 7 == 0 ? 9 : 4);
            int[][] pairs = new int[count][2];
            StringBuilder text = new StringBuilder(width + ":");
            for (int[] pair : pairs) {
                pair[0] = random.nextInt(width);
                pair[1] = (pair[0] + 1 + random.nextInt(width - 1)) % width;
                text.append(pair[0]).append(">x").append(pair[1]).append(";");
            }
            RootHouse h = new RootHouse();
            Set<Integer> links = new TreeSet<>();
            int many = 2 + random.nextInt(6);
            for (int i = 0; i < many + 2; i++) {
                int a = random.nextInt(6);
                int b = (a + 1 + random.nextInt(5)) % 6;
                boolean is = i < many;
                h.link(a, b, is);
                int key = 6 * Math.min(a, b) + Math.max(a, b);
                if (is) {
                    links.add(key);
                } else {
                    links.remove(key);
                }
            }
            List<Integer> way = way(width, pairs, new ArrayList<>(links));
            int c = h.route(Check.circuit(h, text.toString()));
            String what = text + " with " + links;
            CHECK.same(what, c, way == null ? -1 : 1);
            if (way != null) {
                CHECK.same(what, Check.written(h, 1), spelled(width, pairs, links, way));
                CHECK.same(what, h.total(5), way.size());
            }
        }
    }

    /** Ranks LINKS as the document does: by the lesser place, then by the greater one. Null without a WAY. */
    private static List<Integer> way(int width, int[][] pairs, List<Integer> links) {
        int[] start = new int[width + 1];
        for (int i = 0; i < width; i++) {
            start[i] = i;
        }
        advance(start, pairs, links);
        ArrayDeque<int[]> queue = new ArrayDeque<>();
        Map<String, List<Integer>> ways = new HashMap<>();
        queue.add(start);
        ways.put(java.util.Arrays.toString(start), new ArrayList<>());
        while (!queue.isEmpty()) {
            int[] state = queue.remove();
            List<Integer> so = ways.get(java.util.Arrays.toString(state));
            if (state[width] == pairs.length) {
                return so;
            }
            for (int link : links) {
                int[] next = swapped(state, link);
                advance(next, pairs, links);
                String key = java.util.Arrays.toString(next);
                if (!ways.containsKey(key)) {
                    List<Integer> longer = new ArrayList<>(so);
                    longer.add(link);
                    ways.put(key, longer);
                    queue.add(next);
                }
            }
        }
        return null;
    }

    private static int[] swapped(int[] state, int link) {
        int[] next = state.clone();
        for (int i = 0; i < state.length - 1; i++) {
            next[i] = state[i] == link / 6 ? link % 6 : state[i] == link % 6 ? link / 6 : state[i];
        }
        return next;
    }

    private static void advance(int[] state, int[][] pairs, java.util.Collection<Integer> links) {
        int width = state.length - 1;
        while (state[width] < pairs.length) {
            int a = state[pairs[state[width]][0]];
            int b = state[pairs[state[width]][1]];
            if (!links.contains(6 * Math.min(a, b) + Math.max(a, b))) {
                return;
            }
            state[width]++;
        }
    }

    private static String spelled(int width, int[][] pairs, Set<Integer> links, List<Integer> way) {
        StringBuilder text = new StringBuilder("6:");
        int[] state = new int[width + 1];
        for (int i = 0; i < width; i++) {
            state[i] = i;
        }
        for (int i = 0; i <= way.size(); i++) {
            int from = state[width];
            advance(state, pairs, links);
            for (int j = from; j < state[width]; j++) {
                text.append(state[pairs[j][0]]).append(">x").append(state[pairs[j][1]]).append(";");
            }
            if (i < way.size()) {
                text.append("w").append(way.get(i) / 6).append(way.get(i) % 6).append(";");
                state = swapped(state, way.get(i));
            }
        }
        return text.toString();
    }

    /** All 40320 permutations, from the one that does nothing on; then some by lot, and the furthest ones. */
    private static void leastOnes(Random random) {
        int identity = 0;
        for (int i = 0; i < 8; i++) {
            identity |= i << 3 * i;
        }
        Map<Integer, Integer> distance = new HashMap<>();
        List<Integer> order = new ArrayList<>();
        distance.put(identity, 0);
        order.add(identity);
        for (int at = 0; at < order.size(); at++) {
            for (int gate = 0; gate < 12; gate++) {
                int next = behind(order.get(at), gate);
                if (distance.putIfAbsent(next, distance.get(order.get(at)) + 1) == null) {
                    order.add(next);
                }
            }
        }
        CHECK.same("permutations", order.size(), 40320);
        for (int i = 0; i < 400; i++) {
            int far = i < 100 ? order.size() - 1 - i : random.nextInt(order.size());
            least(order.get(far), distance);
        }
    }

    /** The gates in their order: by WIRES, then by CONTROLS. */
    private static int[] gate(int number) {
        int[][] controls = {{0, 2, 4, 6}, {0, 1, 4, 5}, {0, 1, 2, 3}};
        return new int[] {number / 4, controls[number / 4][number % 4]};
    }

    private static int behind(int permutation, int number) {
        int[] gate = gate(number);
        int next = 0;
        for (int i = 0; i < 8; i++) {
            int to = permutation >> 3 * i & 7;
            next |= ((to & gate[1]) == gate[1] ? to ^ 1 << gate[0] : to) << 3 * i;
        }
        return next;
    }

    /** A gate ahead of a permutation is one behind its inverse. */
    private static void least(int permutation, Map<Integer, Integer> distance) {
        int rest = 0;
        for (int i = 0; i < 8; i++) {
            rest |= i << 3 * (permutation >> 3 * i & 7);
        }
        RootHouse h = new RootHouse();
        CHECK.same("least", h.least(permutation), 0);
        int count = distance.get(rest);
        CHECK.same("OPS", h.look(0, 1), count);
        for (int i = 0; i < count; i++) {
            int number = 0;
            while (distance.get(behind(rest, number)) != count - 1 - i) {
                number++;
            }
            rest = behind(rest, number);
            CHECK.same("kind", h.op(0, i, 0), 0);
            CHECK.same("WIRE", h.op(0, i, 1), gate(number)[0]);
            CHECK.same("CONTROLS", h.op(0, i, 3), gate(number)[1]);
        }
    }

    private static void games(Random random) {
        for (int round = 0; round < 200; round++) {
            long rules = random.nextLong() & (round % 2 == 0 ? -1L : random.nextLong());
            int best = -1;
            int least = -1;
            for (int answers = 0; answers < 256; answers++) {
                int won = 0;
                for (int pair = 0; pair < 16; pair++) {
                    int a = answers >> 4 + pair / 4 & 1;
                    int b = answers >> pair % 4 & 1;
                    won += (int) (rules >>> 16 * (pair / 4) + 4 * (pair % 4) + 2 * a + b & 1);
                }
                least = won > best ? answers : least;
                best = Math.max(best, won);
            }
            RootHouse h = new RootHouse();
            CHECK.same("game " + rules, h.game(rules), best);
            CHECK.same("played " + rules, h.played(), least);
        }
    }

    private static void kin(Random random) {
        for (int n = 2; n <= 6; n++) {
            int graphs = 1 << n * (n - 1) / 2;
            for (int i = 0; i < Math.min(graphs, 150); i++) {
                kin(n, graphs <= 150 ? i : random.nextInt(graphs));
            }
        }
        kin(6, 32767);
        kin(6, 63);
        kin(6, 63 + 64 * 511);
    }

    private static void kin(int n, int graph) {
        TreeSet<Integer> seen = new TreeSet<>();
        ArrayDeque<Integer> queue = new ArrayDeque<>();
        seen.add(graph);
        queue.add(graph);
        int fewest = 99;
        while (!queue.isEmpty()) {
            int one = queue.remove();
            fewest = Math.min(fewest, Integer.bitCount(one));
            for (int point = 0; point < n; point++) {
                int other = one;
                for (int b = 1; b < n; b++) {
                    for (int a = 0; a < b; a++) {
                        boolean both = a != point && b != point && paired(one, a, point) && paired(one, b, point);
                        other ^= both ? 1 << b * (b - 1) / 2 + a : 0;
                    }
                }
                if (seen.add(other)) {
                    queue.add(other);
                }
            }
        }
        RootHouse h = new RootHouse();
        int count = fewest;
        CHECK.row(n + " points, " + graph, what -> h.kin(n, graph, what), 0, seen.size(), seen.first(), count);
    }

    private static boolean paired(int graph, int a, int b) {
        int low = Math.min(a, b);
        int high = Math.max(a, b);
        return (graph >> high * (high - 1) / 2 + low & 1) != 0;
    }

    private static void costs(Random random) {
        for (int round = 0; round < 150; round++) {
            RootHouse h = new RootHouse();
            int n = 1 + random.nextInt(6);
            List<Integer> legs = new ArrayList<>();
            for (int i = 0; i < n; i++) {
                int set = random.nextInt(65536) & random.nextInt(65536) & (round % 2 == 0 ? 65535 : random.nextInt(65536));
                legs.add(set);
                h.tensor(i, set);
            }
            CHECK.same("cost of " + legs, h.cost(n), cheapest(legs));
        }
    }

    /** All ways to take two and two. */
    private static int cheapest(List<Integer> legs) {
        int least = legs.size() == 1 ? 0 : Integer.MAX_VALUE;
        for (int i = 0; i < legs.size(); i++) {
            for (int j = 0; j < i; j++) {
                List<Integer> rest = new ArrayList<>(legs);
                int one = rest.remove(i);
                int two = rest.remove(j);
                rest.add(one ^ two);
                least = Math.min(least, (1 << Integer.bitCount(one | two)) + cheapest(rest));
            }
        }
        return least;
    }

    /** Row by row of OPS, the shortest first, the first in order first: all 11520 matrices, told by what they make of PAULIS. */
    private static void shortest(Random random) {
        String[] ops = {"h0;", "h1;", "s0;", "s1;", "0>z1;"};
        List<String> words = new ArrayList<>();
        List<int[]> images = new ArrayList<>();
        Set<String> seen = new HashSet<>();
        words.add("");
        images.add(new int[] {1, 4, 2, 8});
        seen.add("[1, 4, 2, 8]");
        for (int at = 0; at < words.size(); at++) {
            for (int step = 0; step < 5; step++) {
                int[] next = images.get(at).clone();
                for (int i = 0; i < 4; i++) {
                    next[i] = turned(next[i], step);
                }
                if (seen.add(java.util.Arrays.toString(next))) {
                    words.add(words.get(at) + ops[step]);
                    images.add(next);
                }
            }
        }
        CHECK.same("matrices", words.size(), 11520);
        for (int i = 0; i < 300; i++) {
            String word = words.get(i < 40 ? words.size() - 1 - i : random.nextInt(words.size()));
            RootHouse h = new RootHouse();
            String longer = "2:" + (i % 2 == 0 ? "x0;y1;" : "w01;1>x0;") + word;
            int c = Check.circuit(h, longer);
            int d = Check.circuit(h, i % 2 == 0 ? "2:y1;x0;" : "2:1>x0;w10;");
            int e = h.derive(1, d, c);
            CHECK.same(word, Check.written(h, h.derive(6, e, 0)), "2:" + word);
        }
    }

    /** EQUAL, of the right form, and with one of the 24 rows behind its last t: there is just one such. */
    private static void forms(Random random) {
        List<String> words = new ArrayList<>();
        List<int[]> images = new ArrayList<>();
        Set<String> seen = new HashSet<>();
        words.add("");
        images.add(new int[] {1, 4});
        seen.add("[1, 4]");
        for (int at = 0; at < words.size(); at++) {
            for (int letter = 0; letter < 2; letter++) {
                // The first letter is done last, so what comes to the end of the row is done first.
                String word = words.get(at) + "hs".charAt(letter);
                int[] next = {1, 4};
                for (int i = word.length() - 1; i >= 0; i--) {
                    for (int j = 0; j < 2; j++) {
                        next[j] = turned(next[j], word.charAt(i) == 'h' ? 0 : 2);
                    }
                }
                if (seen.add(java.util.Arrays.toString(next))) {
                    words.add(word);
                    images.add(next);
                }
            }
        }
        CHECK.same("matrices", words.size(), 24);
        String[] gates = {"x0;", "y0;", "z0;", "h0;", "s0;", "t0;", "-s0;", "-t0;", "h0;", "t0;"};
        for (int round = 0; round < 300; round++) {
            StringBuilder text = new StringBuilder("1:");
            for (int i = random.nextInt(30); i > 0; i--) {
                text.append(gates[random.nextInt(gates.length)]);
            }
            RootHouse h = new RootHouse();
            int c = Check.circuit(h, text.toString());
            String form = Check.form(h, c);
            CHECK.same(text + " t's", h.letter(-1), form.replaceAll("[hs]", "").length());
            String last = form.substring(form.lastIndexOf('t') + 1);
            CHECK.yes(form + " ends in one of the 24", words.contains(last));
            CHECK.yes(form + " begins as it must", form.substring(0, form.length() - last.length()).matches("t?(ht|sht)*"));
            StringBuilder back = new StringBuilder("1:");
            for (int i = form.length() - 1; i >= 0; i--) {
                back.append(form.charAt(i)).append("0;");
            }
            CHECK.same(text + " is " + form, h.equal(c, Check.circuit(h, back.toString())), 1);
        }
    }

    /** A PAULI as x 0, x 1, z 0, z 1 and a sign, bits 0 .. 4, behind h 0, h 1, s 0, s 1, or z with a CONTROL. */
    private static int turned(int pauli, int step) {
        int wire = step & 1;
        int x = pauli >> wire & 1;
        int z = pauli >> 2 + wire & 1;
        if (step < 2) {
            return pauli & ~(5 << wire) ^ (z | x << 2) << wire ^ (x & z) << 4;
        }
        if (step < 4) {
            return pauli ^ x << 2 + wire ^ (x & z) << 4;
        }
        int both = pauli & pauli >> 1 & 1;
        int differ = pauli >> 2 & 1 ^ pauli >> 3 & 1;
        return pauli ^ (pauli >> 1 & 1) << 2 ^ (pauli & 1) << 3 ^ (both & differ) << 4;
    }
}

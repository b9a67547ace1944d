import java.util.ArrayList;
import java.util.HashMap;
import java.util.List;
import java.util.Map;
import java.util.Random;

/** Promises 3, 4, 6 and 8 by lot: TEXTS, right ones and broken ones, next to a reader that goes down into a tree. */
public final class TextModelTest {
    private static final Check CHECK = new Check("texts by lot");
    private static final String SIGNS = "0123456789:;>-@[]*?!xyzhstwmrabcde q";
    private static final int[] SEEN = new int[6];

    public static void main(String[] args) {
        Random random = new Random(345);
        for (int round = 0; round < 30000; round++) {
            StringBuilder text = new StringBuilder(drawn(random));
            for (int i = random.nextInt(3); i > 0 && round % 3 != 0; i--) {
                spoil(random, text);
            }
            if (text.length() <= 400) {
                compare(text.toString());
            }
        }
        for (int kind = 0; kind < 6; kind++) {
            CHECK.yes("kind " + kind + " came " + SEEN[kind] + " times", SEEN[kind] > 50);
        }
        CHECK.end();
    }

    private static void compare(String text) {
        Model model = new Model(text);
        model.read();
        SEEN[model.kind]++;
        RootHouse h = new RootHouse();
        String due = (model.kind == 0 ? "0" : "IllegalArgumentException") + " " + model.kind + " " + model.place;
        CHECK.same(text, Check.read(h, text), due);
        if (model.kind == 0) {
            CHECK.same(text + " OPS", h.look(0, 1), model.ops.size());
            CHECK.same(text + " characters", h.look(0, 3), model.written().length());
            if (model.written().length() < 400) {
                CHECK.same(text, Check.written(h, 0), model.written());
            }
        }
    }

    private static void spoil(Random random, StringBuilder text) {
        int at = random.nextInt(text.length());
        char sign = SIGNS.charAt(random.nextInt(SIGNS.length()));
        switch (random.nextInt(5)) {
            case 0:
                text.deleteCharAt(at);
                break;
            case 1:
                text.insert(at, sign);
                break;
            case 2:
                text.setCharAt(at, sign);
                break;
            case 3:
                text.setLength(Math.max(1, at));
                break;
            default:
                text.append(sign);
                break;
        }
    }

    private static String drawn(Random random) {
        int wires = 1 + random.nextInt(5);
        StringBuilder text = new StringBuilder(wires + (random.nextInt(9) == 0 ? " : " : ":"));
        int routines = random.nextInt(4);
        int[] sizes = new int[4];
        for (int i = 0; i < routines; i++) {
            int name = random.nextInt(8) == 0 ? random.nextInt(4) : i;
            int size = 1 + random.nextInt(4);
            text.append("@").append((char) ('a' + name)).append(size).append("[");
            statements(random, text, size, sizes, 1, true);
            text.append("]");
            sizes[name] = sizes[name] == 0 ? size : sizes[name];
        }
        statements(random, text, wires, sizes, 0, false);
        return text.toString();
    }

    private static void statements(Random random, StringBuilder text, int wires, int[] sizes, int depth, boolean inside) {
        for (int i = random.nextInt(4); i >= 0; i--) {
            int pick = random.nextInt(12);
            if (pick < 2 && depth < 7) {
                text.append("*").append(1 + random.nextInt(depth < 3 ? 9 : 2)).append("[");
                statements(random, text, wires, sizes, depth + 1, inside);
                text.append("]");
            } else if (pick == 2 && !inside && depth < 7) {
                text.append(random.nextBoolean() ? "?" : "!").append(random.nextInt(4)).append("[");
                statements(random, text, wires, sizes, depth + 1, inside);
                text.append("]");
            } else if (pick == 3 && !inside) {
                text.append(random.nextBoolean() ? "m" + random.nextInt(wires) + random.nextInt(4) : "r" + random.nextInt(wires)).append(";");
            } else {
                gate(random, text, wires, sizes);
            }
        }
    }

    private static void gate(Random random, StringBuilder text, int wires, int[] sizes) {
        List<Integer> left = new ArrayList<>();
        for (int i = 0; i < wires + (random.nextInt(40) == 0 ? 2 : 0); i++) {
            left.add(i);
        }
        java.util.Collections.shuffle(left, random);
        if (random.nextInt(40) == 0) {
            left.add(0, left.get(left.size() - 1));
        }
        int name = random.nextInt(4);
        boolean use = random.nextInt(3) == 0 && (sizes[name] > 0 || random.nextInt(30) == 0);
        int want = use ? Math.max(1, sizes[name]) : 1 + (random.nextInt(6) == 0 ? 1 : 0);
        while (left.size() < want) {
            left.add(left.size());
        }
        int controls = Math.min(left.size() - want, random.nextInt(3));
        for (int i = 0; i < controls; i++) {
            text.append(left.remove(0)).append(">");
        }
        text.append(random.nextInt(4) == 0 ? "-" : "");
        text.append(use ? "@" + (char) ('a' + name) : want == 2 ? "w" : "" + "xyzhst".charAt(random.nextInt(6)));
        for (int i = 0; i < want; i++) {
            text.append(left.get(i));
        }
        text.append(random.nextInt(20) == 0 ? " ;" : ";");
    }

    /** Ends the reading where it is no TEXT any more. */
    private static final class Broken extends RuntimeException {
        private static final long serialVersionUID = 1;
        final int place;

        Broken(int place) {
            this.place = place;
        }
    }

    private interface Part {
        /** Lays out, with WIRES in place of 0, 1, ..; back: the inverse. More than 301 OPS are not counted. */
        void lay(List<int[]> ops, int[] wires, int controls, int ones, int zeros, boolean back);
    }

    private static final class Model {
        final String text;
        final List<int[]> ops = new ArrayList<>();
        final Map<Character, List<Part>> bodies = new HashMap<>();
        final Map<Character, Integer> sizes = new HashMap<>();
        int next;
        int place;
        int kind;
        int wires;
        boolean ahead;

        Model(String text) {
            this.text = text;
        }

        void read() {
            List<Part> parts = new ArrayList<>();
            try {
                wires = digit('1', '8');
                must(':');
                while (!atEnd()) {
                    Part part = statement(wires, 0, false);
                    if (part != null) {
                        parts.add(part);
                    }
                }
            } catch (Broken e) {
                kind = 1;
                place = e.place;
                return;
            }
            if (kind == 0) {
                int[] own = {0, 1, 2, 3, 4, 5, 6, 7};
                for (Part part : parts) {
                    part.lay(ops, own, 0, 0, 0, false);
                }
                long hs = ops.stream().filter(op -> op[0] == 3).count();
                kind = ops.size() > 300 || hs > 60 ? 5 : 0;
            }
        }

        boolean atEnd() {
            while (next < text.length() && text.charAt(next) == ' ') {
                next++;
            }
            return next >= text.length();
        }

        /** The next character; it stays, if it is not taken. */
        char look() {
            if (atEnd()) {
                throw new Broken(text.length());
            }
            return text.charAt(next);
        }

        int digit(char from, char to) {
            char c = look();
            if (c < from || c > to) {
                throw new Broken(next);
            }
            next++;
            return c - '0';
        }

        void must(char c) {
            if (look() != c) {
                throw new Broken(next);
            }
            next++;
        }

        void fault(int what, int where) {
            if (kind == 0 || where < place || where == place && what < kind) {
                kind = what;
                place = where;
            }
        }

        int wire(int frame, List<Integer> told) {
            look();
            int where = next;
            int wire = digit('0', '9');
            if (wire >= frame) {
                fault(2, where);
            } else if (told.contains(wire)) {
                fault(3, where);
            }
            told.add(wire);
            return wire;
        }

        List<Part> block(int frame, int depth, boolean inside) {
            look();
            if (text.charAt(next) != '[' || depth >= 8) {
                throw new Broken(next);
            }
            next++;
            List<Part> parts = new ArrayList<>();
            while (look() != ']') {
                parts.add(statement(frame, depth + 1, inside));
            }
            next++;
            return parts;
        }

        /** Null for a ROUTINE. */
        Part statement(int frame, int depth, boolean inside) {
            char c = look();
            if (c == '*' || !inside && (c == '?' || c == '!')) {
                ahead |= !inside;
                next++;
                int number = c == '*' ? digit('1', '9') : digit('0', '3');
                List<Part> parts = block(frame, depth, inside);
                int times = c == '*' ? number : 1;
                int one = c == '?' ? 1 << number : 0;
                int zero = c == '!' ? 1 << number : 0;
                return (out, to, controls, ones, zeros, back) -> {
                    for (int i = 0; i < times; i++) {
                        layAll(parts, out, to, controls, ones | one, zeros | zero, back);
                    }
                };
            }
            if (!inside && (c == 'm' || c == 'r')) {
                ahead = true;
                next++;
                int wire = wire(frame, new ArrayList<>());
                int bit = c == 'm' ? digit('0', '3') : 0;
                must(';');
                return (out, to, controls, ones, zeros, back) -> put(out, c == 'm' ? 9 : 10, wire, bit, 0, ones, zeros);
            }
            return gate(frame, depth, inside);
        }

        Part gate(int frame, int depth, boolean inside) {
            List<Integer> told = new ArrayList<>();
            int mine = 0;
            int start = next;
            while (Character.isDigit(look())) {
                mine |= 1 << wire(frame, told);
                must('>');
            }
            boolean inverse = look() == '-';
            next += inverse ? 1 : 0;
            char c = look();
            boolean bare = next == start;
            int letter = "xyzhstw@".indexOf(c);
            if (letter < 0) {
                throw new Broken(next);
            }
            int sign = next;
            next++;
            if (c == '@') {
                return routineOrUse(frame, depth, inside, bare, sign, told, mine, inverse);
            }
            ahead |= !inside;
            int wire = wire(frame, told);
            int second = c == 'w' ? wire(frame, told) : 0;
            must(';');
            int controlsHere = mine;
            return (out, to, controls, ones, zeros, back) -> put(out, turned(letter == 6 ? 8 : letter, inverse != back), to[wire],
                letter == 6 ? to[second] : 0, controls | renamed(controlsHere, to), ones, zeros);
        }

        private static int renamed(int set, int[] to) {
            int named = 0;
            for (int i = 0; i < to.length; i++) {
                named |= (set >> i & 1) << to[i];
            }
            return named;
        }

        private static int turned(int kind, boolean inverse) {
            return inverse && (kind == 4 || kind == 5) ? kind + 2 : kind;
        }

        private static void put(List<int[]> out, int kind, int wire, int second, int controls, int ones, int zeros) {
            if (out.size() <= 300) {
                out.add(new int[] {kind, wire, second, controls, ones, zeros});
            }
        }

        private static void layAll(List<Part> parts, List<int[]> out, int[] to, int controls, int ones, int zeros, boolean back) {
            for (int i = 0; i < parts.size() && out.size() <= 300; i++) {
                parts.get(back ? parts.size() - 1 - i : i).lay(out, to, controls, ones, zeros, back);
            }
        }

        Part routineOrUse(int frame, int depth, boolean inside, boolean bare, int sign, List<Integer> told, int mine, boolean inverse) {
            char name = look();
            if (name < 'a' || name > 'd') {
                throw new Broken(next);
            }
            next++;
            look();
            int first = next;
            int size = digit('0', '9');
            if (look() == '[') {
                if (!bare || inside || depth > 0 || ahead || size < 1 || size > 4) {
                    throw new Broken(next);
                }
                if (sizes.containsKey(name)) {
                    fault(4, sign);
                }
                List<Part> body = block(size, depth, true);
                bodies.putIfAbsent(name, body);
                sizes.putIfAbsent(name, size);
                return null;
            }
            next = first;
            ahead |= !inside;
            int want = sizes.getOrDefault(name, 0);
            if (want == 0) {
                fault(4, sign);
            }
            List<Integer> named = new ArrayList<>();
            while (named.size() < (want == 0 ? 4 : want) && (named.isEmpty() || want > 0 || look() != ';')) {
                named.add(wire(frame, told));
            }
            must(';');
            List<Part> body = bodies.get(name);
            return (out, to, controls, ones, zeros, back) -> {
                int[] inner = new int[named.size()];
                for (int i = 0; i < inner.length; i++) {
                    inner[i] = to[named.get(i)];
                }
                layAll(body, out, inner, controls | renamed(mine, to), ones, zeros, inverse != back);
            };
        }

        String written() {
            StringBuilder all = new StringBuilder(wires + ":");
            for (int[] op : ops) {
                StringBuilder one = new StringBuilder();
                for (int i = 0; i < 4; i++) {
                    one.append((op[4] >> i & 1) != 0 ? "?" + i + "[" : "").append((op[5] >> i & 1) != 0 ? "!" + i + "[" : "");
                }
                int deep = one.length() / 3;
                for (int i = 0; i < 8; i++) {
                    one.append((op[3] >> i & 1) != 0 ? i + ">" : "");
                }
                one.append(op[0] == 6 || op[0] == 7 ? "-" : "").append("xyzhststwmr".charAt(op[0])).append(op[1]);
                one.append(op[0] == 8 || op[0] == 9 ? "" + op[2] : "").append(";").append("]".repeat(deep));
                all.append(one);
            }
            return all.toString();
        }
    }
}

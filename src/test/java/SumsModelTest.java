import java.util.Map;
import java.util.Random;
import java.util.TreeMap;

/** Promises 41 to 45 by lot, next to a model that multiplies PAULIS letter by letter. */
public final class SumsModelTest {
    private static final Check CHECK = new Check("sums by lot");
    private static final int MILLION = 1000000;
    private static int refused = 0;

    public static void main(String[] args) {
        Random random = new Random(4145);
        for (int round = 0; round < 500; round++) {
            compare(random, round % 4);
        }
        CHECK.yes("refused " + refused + " times", refused > 100);
        CHECK.end();
    }

    private static void compare(Random random, int taste) {
        RootHouse h = new RootHouse();
        Sum a = new Sum();
        Sum b = new Sum();
        StringBuilder log = new StringBuilder();
        int calls = 0;
        while (calls < 60) {
            int pick = random.nextInt(taste == 3 ? 24 : 14);
            Sum next = null;
            long got = 0;
            if (pick < 8) {
                log.append(" sum ").append(pick);
                got = h.sum(pick);
                if (pick == 2) {
                    Sum kept = a;
                    a = b;
                    b = kept;
                    next = a;
                } else {
                    next = a.changed(pick, b);
                }
            } else if (pick < 10) {
                int j = random.nextInt(8);
                boolean up = random.nextBoolean();
                log.append(" ladder ").append(j).append(up);
                got = h.ladder(j, up);
                next = a.times(ladder(j, up));
            } else {
                int most = taste == 0 ? 4 : taste == 1 ? 256 : taste == 2 ? 8 : 256;
                int xs = random.nextInt(most);
                int zs = random.nextInt(most);
                int p = number(random, taste);
                int q = number(random, taste);
                log.append(" term ").append(xs).append(",").append(zs).append(",").append(p).append(",").append(q);
                got = h.term(xs, zs, p, q);
                Sum one = new Sum();
                one.add(256 * xs + zs, p, q, 0);
                next = a.plus(one, 1);
            }
            calls++;
            Sum fits = next.fits() ? next : null;
            refused += fits == null ? 1 : 0;
            CHECK.same(log.toString(), got, fits == null ? -1 : fits.terms.size());
            a = fits == null ? a : fits;
        }
        CHECK.same(log + " commutes", h.commutes() ? 1 : 0, a.commutes(b) ? 1 : 0);
        same(log.toString(), h, a);
        h.sum(2);
        same(log + " B", h, b);
    }

    private static int number(Random random, int taste) {
        return taste == 2 ? random.nextInt(2 * MILLION + 1) - MILLION : random.nextInt(7) - 3;
    }

    private static void same(String log, RootHouse h, Sum sum) {
        CHECK.same(log + " TERMS", h.total(6), sum.terms.size());
        int i = 0;
        for (Map.Entry<Integer, long[]> term : sum.terms.entrySet()) {
            int at = i;
            if (i < 40) {
                CHECK.row(log + " TERM " + i, what -> h.told(at, what), 0, term.getKey() >> 8, term.getKey() & 255, term.getValue()[0],
                    term.getValue()[1], sum.k);
            }
            i++;
        }
    }

    private static Sum ladder(int j, boolean up) {
        Sum sum = new Sum();
        int below = (1 << j) - 1;
        sum.k = 1;
        sum.add((1 << j) * 256 + below, 1, 0, 1);
        sum.add((1 << j) * 256 + below + (1 << j), 0, up ? -1 : 1, 1);
        return sum;
    }

    /** p and q by 256 * x's + z's, over 2^k. */
    private static final class Sum {
        final TreeMap<Integer, long[]> terms = new TreeMap<>();
        int k = 0;

        void add(int key, long p, long q, int over) {
            long[] old = terms.getOrDefault(key, new long[2]);
            long by = 1L << k - over;
            terms.put(key, new long[] {old[0] + p * by, old[1] + q * by});
        }

        Sum least() {
            terms.values().removeIf(number -> number[0] == 0 && number[1] == 0);
            while (k > 0 && terms.values().stream().allMatch(number -> number[0] % 2 == 0 && number[1] % 2 == 0)) {
                terms.replaceAll((key, number) -> new long[] {number[0] / 2, number[1] / 2});
                k--;
            }
            return this;
        }

        boolean fits() {
            return terms.size() <= 150 && k <= 60
                && terms.values().stream().allMatch(number -> Math.abs(number[0]) <= MILLION && Math.abs(number[1]) <= MILLION);
        }

        Sum plus(Sum other, int sign) {
            Sum sum = new Sum();
            sum.k = Math.max(k, other.k);
            terms.forEach((key, number) -> sum.add(key, number[0], number[1], k));
            other.terms.forEach((key, number) -> sum.add(key, sign * number[0], sign * number[1], other.k));
            return sum.least();
        }

        Sum times(Sum other) {
            Sum sum = new Sum();
            sum.k = k + other.k;
            for (Map.Entry<Integer, long[]> one : terms.entrySet()) {
                for (Map.Entry<Integer, long[]> two : other.terms.entrySet()) {
                    long p = one.getValue()[0] * two.getValue()[0] - one.getValue()[1] * two.getValue()[1];
                    long q = one.getValue()[0] * two.getValue()[1] + one.getValue()[1] * two.getValue()[0];
                    for (int i = quarters(one.getKey(), two.getKey()); i > 0; i--) {
                        long kept = p;
                        p = -q;
                        q = kept;
                    }
                    sum.add(one.getKey() ^ two.getKey(), p, q, sum.k);
                }
            }
            return sum.least();
        }

        /** Of each WIRE: x y is i z, y z is i x, z x is i y, and the other way round it is -i. */
        static int quarters(int one, int two) {
            int quarters = 0;
            for (int i = 0; i < 8; i++) {
                int first = letter(one, i);
                int second = letter(two, i);
                if (first != 0 && second != 0 && first != second) {
                    quarters += (second - first + 3) % 3 == 1 ? 1 : 3;
                }
            }
            return quarters % 4;
        }

        /** 0 nothing, 1 .. 3 x, y, z */
        static int letter(int key, int wire) {
            int x = key >> 8 + wire & 1;
            int z = key >> wire & 1;
            return x == 1 ? 1 + z : 3 * z;
        }

        Sum changed(int how, Sum other) {
            Sum sum = new Sum();
            switch (how) {
                case 0:
                    sum.add(0, 1, 0, 0);
                    return sum;
                case 1:
                    return sum;
                case 3:
                    return plus(other, 1);
                case 4:
                    return plus(other, -1);
                case 5:
                    return times(other);
                case 6:
                    return other.times(this);
                default:
                    sum.k = k;
                    terms.forEach((key, number) -> sum.add(key, number[0], -number[1], k));
                    return sum;
            }
        }

        boolean commutes(Sum other) {
            for (int one : terms.keySet()) {
                for (int two : other.terms.keySet()) {
                    if (quarters(one, two) != quarters(two, one)) {
                        return false;
                    }
                }
            }
            return true;
        }
    }
}

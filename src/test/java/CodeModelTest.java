import java.util.ArrayList;
import java.util.List;
import java.util.Random;

/** Promises 30 to 32 by lot, next to a model that goes through all PAULIS, letter by letter. */
public final class CodeModelTest {
    private static final Check CHECK = new Check("codes by lot");
    private static final int[] SEEN = new int[4];

    public static void main(String[] args) {
        Random random = new Random(3032);
        for (int round = 0; round < 1500; round++) {
            int n = 1 + random.nextInt(5);
            List<String> rows = new ArrayList<>();
            int count = 1 + random.nextInt(n);
            for (int tries = 0; tries < 200 && rows.size() < count; tries++) {
                String row = drawn(random, n);
                boolean fits = rows.stream().allMatch(other -> commute(row, other));
                if (fits || random.nextInt(60) == 0) {
                    rows.add(row);
                }
            }
            if (!rows.isEmpty()) {
                compare(random, n, rows);
            }
        }
        for (int kind : new int[] {0, 2, 3}) {
            CHECK.yes("kind " + kind + " came " + SEEN[kind] + " times", SEEN[kind] > 50);
        }
        CHECK.end();
    }

    private static String drawn(Random random, int n) {
        StringBuilder row = new StringBuilder();
        for (int i = 0; i < n; i++) {
            row.append("IXYZ".charAt(random.nextInt(4)));
        }
        return row.toString();
    }

    private static boolean commute(String one, String two) {
        int differ = 0;
        for (int i = 0; i < one.length(); i++) {
            boolean some = one.charAt(i) != 'I' && two.charAt(i) != 'I';
            differ += some && one.charAt(i) != two.charAt(i) ? 1 : 0;
        }
        return differ % 2 == 0;
    }

    private static String spelled(int number, int n) {
        StringBuilder row = new StringBuilder();
        for (int i = n - 1; i >= 0; i--) {
            row.append("IXYZ".charAt(number >> 2 * i & 3));
        }
        return row.toString();
    }

    private static String product(String one, String two) {
        StringBuilder row = new StringBuilder();
        for (int i = 0; i < one.length(); i++) {
            // x, y, z as x's and z's 1, 3, 2: then a product is an exclusive or.
            int both = "IXZY".indexOf(one.charAt(i)) ^ "IXZY".indexOf(two.charAt(i));
            row.append("IXZY".charAt(both));
        }
        return row.toString();
    }

    private static int weight(String row) {
        return row.replace("I", "").length();
    }

    private static List<String> group(List<String> rows, int n) {
        List<String> all = new ArrayList<>();
        all.add("I".repeat(n));
        for (String row : rows) {
            for (int i = all.size() - 1; i >= 0; i--) {
                all.add(product(all.get(i), row));
            }
        }
        return all;
    }

    /** Kind and place of the FAULT; 0 0 without. */
    private static String fault(List<String> rows, int n) {
        for (int i = 0; i < rows.size(); i++) {
            String row = rows.get(i);
            int kind = !rows.subList(0, i).stream().allMatch(other -> commute(row, other)) ? 2
                : group(rows.subList(0, i), n).contains(row) ? 3 : 0;
            if (kind != 0) {
                SEEN[kind]++;
                return kind + " " + i * (n + 1);
            }
        }
        SEEN[0]++;
        return "0 0";
    }

    private static int syndrome(String pauli, List<String> rows) {
        int syndrome = 0;
        for (int i = 0; i < rows.size(); i++) {
            syndrome |= commute(pauli, rows.get(i)) ? 0 : 1 << i;
        }
        return syndrome;
    }

    private static void compare(Random random, int n, List<String> rows) {
        RootHouse h = new RootHouse();
        String text = String.join(",", rows);
        Check.type(h, text);
        String due = fault(rows, n);
        String answer = due.equals("0 0") ? "" + (n - rows.size()) : "IllegalArgumentException";
        CHECK.same(text, Check.said(h::code), answer);
        CHECK.same(text, h.fault(0) + " " + h.fault(1), due);
        if (!due.equals("0 0")) {
            CHECK.same("no CODE", h.codes(0), -1);
            return;
        }
        List<String> group = group(rows, n);
        int[] corrections = new int[1 << rows.size()];
        java.util.Arrays.fill(corrections, -1);
        int distance = 99;
        int[][] counts = new int[4][9];
        for (int number = 0; number < 1 << 2 * n; number++) {
            String pauli = spelled(number, n);
            int syndrome = syndrome(pauli, rows);
            boolean inGroup = group.contains(pauli);
            counts[1][weight(pauli)] += inGroup ? 1 : 0;
            counts[2][weight(pauli)] += syndrome == 0 ? 1 : 0;
            int old = corrections[syndrome];
            corrections[syndrome] = old < 0 || weight(pauli) < weight(spelled(old, n)) ? number : old;
            boolean counted = rows.size() == n ? inGroup && weight(pauli) > 0 : syndrome == 0 && !inGroup;
            distance = counted ? Math.min(distance, weight(pauli)) : distance;
        }
        for (int number = 0; number < 1 << 2 * n; number++) {
            String pauli = spelled(number, n);
            String both = product(pauli, spelled(corrections[syndrome(pauli, rows)], n));
            counts[3][weight(pauli)] += group.contains(both) ? 0 : 1;
        }
        CHECK.row(text, h::codes, 0, n, rows.size(), distance);
        for (int kind = 1; kind <= 3; kind++) {
            for (int j = 0; j <= 8; j++) {
                CHECK.same(text + " " + (100 * kind + j), h.codes(100 * kind + j), counts[kind][j]);
            }
        }
        for (int s = 0; s < corrections.length; s++) {
            CHECK.same(text + " CORRECTION for " + s, h.codes(400 + s), corrections[s]);
        }
        for (int i = 0; i < 20; i++) {
            int number = random.nextInt(1 << 2 * n);
            String pauli = spelled(number, n);
            int syndrome = syndrome(pauli, rows);
            CHECK.row(text + " " + pauli, what -> h.pauli(number, what), 0, syndrome,
                group.contains(pauli) ? 2 : syndrome == 0 ? 1 : 0, weight(pauli));
        }
    }
}

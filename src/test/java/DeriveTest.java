import java.util.Random;

/** Promises 9, 23, 24 and 51: circuits from circuits, whether they are EQUAL, TURNS. */
public final class DeriveTest {
    private static final Check CHECK = new Check("derived circuits");

    public static void main(String[] args) {
        simpleOnes();
        refused();
        merged();
        cancelled();
        shortest();
        equal();
        turns();
        CHECK.end();
    }

    private static void derived(String text, int how, String other, String due) {
        RootHouse h = new RootHouse();
        int c = Check.circuit(h, text);
        int d = other == null ? 0 : Check.circuit(h, other);
        int e = h.derive(how, c, other == null ? 77 : d);
        if (due == null) {
            CHECK.same(text + " how " + how, e, -1);
            CHECK.same("no more circuits", h.total(0), other == null ? 1 : 2);
        } else {
            CHECK.same(text + " how " + how, e, other == null ? 1 : 2);
            CHECK.same(text + " how " + how, Check.written(h, e), due);
        }
    }

    private static void simpleOnes() {
        derived("3:x0;y1;z2;h0;s1;t2;-s0;-t1;0>w12;", 0, null, "3:0>w12;t1;s0;-t2;-s1;h0;z2;y1;x0;");
        derived("2:h0;m01;", 1, "2:?1[r0;]", "2:h0;m01;?1[r0;]");
        derived("2:h0;0>x1;w01;", 2, null, "3:2>h0;0>2>x1;2>w01;");
        derived("7:x0;", 2, null, "8:7>x0;");
        derived("1:x0;", 3, "1:s0;h0;", "1:s0;h0;x0;h0;-s0;");
    }

    private static void refused() {
        derived("8:x0;", 2, null, null);
        derived("1:m00;", 0, null, null);
        derived("1:?0[x0;]", 5, null, null);
        derived("1:r0;", 4, null, null);
        derived("1:x0;", 1, "2:x0;", null);
        derived("1:x0;", 3, "1:m00;", null);
        derived("1:m00;", 3, "1:x0;", null);
        derived("1:x0;", 7, null, null);
        derived("1:x0;", -1, null, null);
        derived("1:*9[*9[x0;x0;]]", 1, "1:*9[*9[x0;x0;]]", null);
        derived("1:*8[*4[h0;]]", 1, "1:*8[*4[h0;]]", null);
        derived("1:h0;", 4, null, null);
        derived("2:0>z1;", 4, null, null);
        derived("3:0>w12;", 4, null, null);
        derived("3:h0;", 6, null, null);
        derived("2:t0;", 6, null, null);
        derived("2:0>h1;", 6, null, null);
        RootHouse h = new RootHouse();
        Check.circuit(h, "1:x0;");
        CHECK.same("no such circuit", h.derive(0, 1, 0), -1);
        CHECK.same("no such circuit", h.derive(0, -1, 0), -1);
        CHECK.same("no such second one", h.derive(1, 0, 1), -1);
        for (int i = 1; i < 20; i++) {
            CHECK.same("one more", h.derive(0, 0, 0), i);
        }
        CHECK.same("there are 20", h.derive(0, 0, 0), -1);
        CHECK.same("there are 20", h.turn(0, 1, 0, 1), -1);
    }

    private static void merged() {
        derived("3:t0;0>x1;t1;s1;0>x1;-t0;x2;t2;w12;z1;t2;", 4, null, "3:0>x1;s1;t1;0>x1;x2;z2;t2;w12;t2;");
        derived("1:t0;s0;", 4, null, "1:s0;t0;");
        derived("1:z0;t0;", 4, null, "1:z0;t0;");
        derived("1:t0;x0;t0;x0;", 4, null, "1:x0;x0;");
        derived("1:x0;t0;x0;s0;", 4, null, "1:x0;-t0;x0;");
        derived("2:t1;0>x1;x0;t1;0>x1;t1;", 4, null, "2:0>x1;x0;t1;0>x1;");
    }

    private static void cancelled() {
        derived("2:h0;x1;z1;h0;0>x1;0>x1;s0;s0;t1;-s1;", 5, null, "2:x1;z1;z0;-t1;");
        derived("2:w01;w10;", 5, null, "2:");
        derived("3:2>w01;w10;", 5, null, "3:2>w01;w10;");
        derived("2:x0;0>x1;x0;", 5, null, "2:x0;0>x1;x0;");
        derived("2:x0;y1;x0;y1;", 5, null, "2:");
        derived("1:t0;s0;t0;", 5, null, "1:t0;s0;t0;");
        derived("1:t0;t0;s0;", 5, null, "1:z0;");
        derived("1:h0;x0;x0;h0;", 5, null, "1:");
        derived("1:-t0;t0;-s0;-t0;", 5, null, "1:-s0;-t0;");
        derived("1:-t0;-t0;", 5, null, "1:-s0;");
        derived("1:-s0;t0;", 5, null, "1:-t0;");
        derived("2:0>z1;1>z0;", 5, null, "2:0>z1;1>z0;");
        derived("2:0>t1;0>t1;0>s1;", 5, null, "2:0>z1;");
    }

    private static void shortest() {
        derived("2:", 6, null, "2:");
        derived("2:x0;", 6, null, "2:h0;s0;s0;h0;");
        derived("2:z1;", 6, null, "2:s1;s1;");
        derived("2:0>x1;", 6, null, "2:h1;0>z1;h1;");
        derived("2:1>z0;", 6, null, "2:0>z1;");
        derived("2:-s0;h1;h1;", 6, null, "2:s0;s0;s0;");
        furthest("h0;h1;s0;h0;s0;s0;s1;s1;0>z1;h0;h1;0>z1;h0;s0;");
        furthest("h0;h1;s0;h0;0>z1;h0;h1;s0;h0;0>z1;h1;0>z1;h0;0>z1;");
        furthest("h0;s0;h0;0>z1;h0;h1;s0;h0;0>z1;h0;h1;s0;h0;0>z1;");
        Random random = new Random(6);
        String[] gates = {"h0;", "h1;", "s0;", "-s1;", "x0;", "y1;", "z0;", "w01;", "0>x1;", "1>y0;", "0>z1;", "1>x0;"};
        for (int i = 0; i < 40; i++) {
            StringBuilder text = new StringBuilder("2:");
            for (int j = random.nextInt(25); j > 0; j--) {
                text.append(gates[random.nextInt(gates.length)]);
            }
            RootHouse h = new RootHouse();
            int c = Check.circuit(h, text.toString());
            int d = h.derive(6, c, 0);
            CHECK.same(text + " is EQUAL", h.equal(c, d), 1);
            CHECK.yes(text + " is short", h.look(d, 1) <= 14);
            CHECK.same("its own SHORTEST", Check.written(h, h.derive(6, d, 0)), Check.written(h, d));
            int e = h.derive(1, c, h.derive(0, d, 0));
            CHECK.same("with its inverse it is nothing", h.look(h.derive(6, e, 0), 1), 0);
        }
    }

    /** Of the 27 that need 14 OPS: it is its own SHORTEST, and in front of others, too, on an object that knows more. */
    private static void furthest(String ops) {
        derived("2:" + ops, 6, null, "2:" + ops);
        derived("2:x0;x0;" + ops + "w01;w10;", 6, null, "2:" + ops);
        RootHouse h = new RootHouse();
        int near = Check.circuit(h, "2:s1;");
        int far = Check.circuit(h, "2:" + ops);
        CHECK.same("a near one first", Check.written(h, h.derive(6, near, 0)), "2:s1;");
        CHECK.same("then a far one", Check.written(h, h.derive(6, far, 0)), "2:" + ops);
        CHECK.same("then the near one", Check.written(h, h.derive(6, near, 0)), "2:s1;");
    }

    private static void equal(String one, String two, int due, int same) {
        RootHouse h = new RootHouse();
        int c = Check.circuit(h, one);
        int d = Check.circuit(h, two);
        CHECK.same(one + " and " + two, h.equal(c, d), due);
        CHECK.same(one + " and " + two + ": same", h.same(), same);
    }

    private static void equal() {
        equal("1:", "1:", 1, 0);
        equal("1:x0;y0;z0;", "1:", 1, 6);
        equal("1:z0;y0;x0;", "1:", 1, 2);
        equal("1:", "1:x0;y0;z0;", 1, 2);
        equal("1:h0;z0;h0;", "1:x0;", 1, 0);
        equal("1:t0;x0;t0;x0;", "1:", 1, 1);
        equal("1:x0;", "1:", 0, -1);
        equal("1:t0;", "1:", 0, -2);
        equal("2:0>z1;", "2:", 0, -4);
        equal("3:0>1>x2;", "3:", 0, -4);
        equal("5:0>1>2>3>t4;", "5:", 0, -32);
        equal("2:0>x1;1>x0;0>x1;", "2:w01;", 1, 0);
        equal("2:1>h0;h0;1>h0;", "2:h0;", 1, 0);
        equal("1:?0[x0;]", "1:", -1, -100);
        equal("1:m00;", "1:", -1, -100);
        equal("1:", "1:r0;", -1, -100);
        equal("1:", "2:", -1, -100);
        equal("6:", "6:", -1, -100);
        RootHouse h = new RootHouse();
        Check.circuit(h, "1:x0;");
        Check.circuit(h, "1:");
        h.equal(0, 1);
        CHECK.same("no such circuit", h.equal(0, 2), -1);
        CHECK.same("no such circuit", h.equal(-1, 0), -1);
        CHECK.same("same stays", h.same(), -1);
        h.clear();
        CHECK.same("same stays", h.same(), -1);
    }

    private static void turned(String text, int xs, int zs, int e, String due) {
        RootHouse h = new RootHouse();
        int c = Check.circuit(h, text);
        int d = h.turn(c, xs, zs, e);
        CHECK.same(text + " turned", d, due == null ? -1 : 1);
        if (due != null) {
            CHECK.same(text + " turned", Check.written(h, d), due);
        }
    }

    private static void turns() {
        turned("1:x0;", 0, 1, 1, "1:x0;t0;");
        turned("1:", 1, 0, 3, "1:h0;s0;t0;h0;");
        turned("1:", 1, 1, 5, "1:-s0;h0;z0;t0;h0;s0;");
        turned("1:m00;", 0, 1, 0, "1:m00;");
        turned("4:", 3, 10, 7, "4:h0;-s1;h1;0>x1;1>x3;-t3;1>x3;0>x1;h0;h1;s1;");
        turned("2:", 0, 3, 0, "2:0>x1;0>x1;");
        turned("1:", 0, 0, 1, null);
        turned("1:", 2, 0, 1, null);
        turned("1:", 0, -1, 1, null);
        turned("1:", 1, 0, 8, null);
        turned("1:", 1, 0, -1, null);
        turned("1:*9[*6[h0;]]*5[h0;]", 1, 0, 1, null);
        turned("1:*9[*6[h0;]]*4[h0;]", 1, 0, 2, "1:" + "h0;".repeat(59) + "s0;h0;");
        RootHouse h = new RootHouse();
        CHECK.same("no such circuit", h.turn(0, 1, 0, 1), -1);
        for (int xs = 0; xs < 4; xs++) {
            for (int zs = xs == 0 ? 1 : 0; zs < 4; zs++) {
                turnByFour(xs, zs);
            }
        }
    }

    /** A TURN by 4 eighths is the PAULI itself. */
    private static void turnByFour(int xs, int zs) {
        RootHouse h = new RootHouse();
        StringBuilder text = new StringBuilder("2:");
        for (int i = 0; i < 2; i++) {
            int letter = (xs >> i & 1) + 2 * (zs >> i & 1);
            text.append(letter == 0 ? "" : "xzy".charAt(letter - 1) + "" + i + ";");
        }
        int c = Check.circuit(h, text.toString());
        int d = h.turn(Check.circuit(h, "2:"), xs, zs, 4);
        CHECK.same(text + " as a TURN", h.equal(c, d), 1);
        CHECK.same(text + " as a TURN", h.same(), 0);
    }
}

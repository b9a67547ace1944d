import com.sun.management.ThreadMXBean;
import java.lang.management.ManagementFactory;
import java.lang.reflect.Array;
import java.lang.reflect.Field;
import java.lang.reflect.Modifier;
import java.util.IdentityHashMap;
import java.util.Map;

/**
 * Rule 12 of LANGUAGE.md: a house makes its rows when it is made, few of them, and no call makes any,
 * whichever it is and whatever was called ahead of it.
 */
public final class RoomTest {
    private static final Check CHECK = new Check("room");
    private static final ThreadMXBean THREADS = (ThreadMXBean) ManagementFactory.getThreadMXBean();
    private static final String LONG_TEXT = longText();
    private static final Call[] CALLS = {
        h -> h.type(0x313A68303BL, 5), h -> h.circuit(), h -> h.fault(0), h -> h.total(0), h -> h.look(0, 3),
        h -> h.op(0, 0, 0), h -> h.written(0, 2), h -> h.begin(0, 0, 0), h -> h.run(400), h -> h.state(7), h -> h.amplitude(0, 4),
        h -> h.weight(1, 1, 2), h -> h.expected(1, 1, 0), h -> h.mixed(0, 0, 1, 0), h -> h.nodes(1), h -> h.group(0, 0),
        h -> h.table(20), h -> h.gate(3, 0, 0), h -> h.gate(5, 0, 19), h -> h.measure(0, 1), h -> h.row(3, 1),
        h -> h.equal(0, 0), h -> h.same(), h -> h.diagram(0), h -> h.spider(0, 1), h -> h.rewrite(1, 4, 5),
        h -> h.reduce(), h -> h.meaning(0, 0, 0), h -> h.type(0x58582C5A5AL, 5), h -> h.code(), h -> h.codes(2),
        h -> h.codes(401), h -> h.pauli(7, 1), h -> h.form(1), h -> h.letter(0), h -> h.least(0xFAC688),
        h -> h.least(076543210), h -> h.route(2), h -> h.route(3), h -> h.route(4), h -> h.link(5, 0, true),
        h -> h.route(3), h -> h.game(0x1234567890ABCDEFL), h -> h.played(), h -> h.faulty(0, 0, 1, 1, 0),
        h -> h.sum(0), h -> h.ladder(1, true), h -> h.term(3, 5, 7, 9), h -> h.sum(2), h -> h.term(1, 1, 1, 1),
        h -> h.sum(3), h -> h.sum(5), h -> h.sum(6), h -> h.sum(7), h -> h.told(0, 2), h -> h.commutes(),
        h -> h.density(2, 0), h -> h.mix(0, 0), h -> h.spoil(0, 0, 3), h -> h.entry(0, 0, 0), h -> h.purity(0),
        h -> h.turn(0, 3, 1, 3), h -> h.kin(6, 1234, 0), h -> h.kin(6, 0x7FFF, 2), h -> h.tensor(1, 5), h -> h.cost(9),
        h -> h.derive(0, 0, 0), h -> h.derive(1, 0, 0), h -> h.derive(2, 0, 0), h -> h.derive(3, 0, 0),
        h -> h.derive(4, 4, 0), h -> h.derive(5, 3, 0), h -> h.derive(6, 0, 0), h -> h.derive(6, 5, 0), h -> h.clear()};

    public static void main(String[] args) throws IllegalAccessException {
        THREADS.setThreadAllocatedMemoryEnabled(true);
        Map<Object, Boolean> parts = new IdentityHashMap<>();
        long elements = visit(prepared(), parts);
        CHECK.yes("a house has few objects: " + parts.size(), parts.size() < 120);
        CHECK.yes("and few elements: " + elements, elements < 34000);
        // A first round is for what the machine itself makes when a class or a call is new to it.
        madeByCalls(prepared());
        long[] made = madeByCalls(prepared());
        for (int i = 0; i < CALLS.length; i++) {
            CHECK.same("bytes made by call " + i + " of CALLS", made[i], 0);
        }
        keepsItsParts();
        CHECK.end();
    }

    /** No row is put in place of another one, whichever call is the first. */
    private static void keepsItsParts() throws IllegalAccessException {
        for (int first = 0; first < CALLS.length; first++) {
            RootHouse h = prepared();
            Map<Object, Boolean> before = new IdentityHashMap<>();
            visit(h, before);
            for (int i = 0; i < CALLS.length; i++) {
                answer(CALLS[(first + i) % CALLS.length], h);
            }
            Map<Object, Boolean> after = new IdentityHashMap<>();
            visit(h, after);
            CHECK.yes("the parts stay the same ones behind call " + first, before.keySet().equals(after.keySet()));
        }
    }

    private static long[] madeByCalls(RootHouse h) {
        long[] made = new long[CALLS.length];
        for (int i = 0; i < CALLS.length; i++) {
            Call call = CALLS[i];
            long before = THREADS.getCurrentThreadAllocatedBytes();
            answer(call, h);
            made[i] = THREADS.getCurrentThreadAllocatedBytes() - before;
        }
        return made;
    }

    private static void answer(Call call, RootHouse h) {
        try {
            call.on(h);
        } catch (RuntimeException e) {
            // Which calls throw is another test's matter.
        }
    }

    private static RootHouse prepared() {
        RootHouse h = new RootHouse();
        Check.circuit(h, "2:h0;0>x1;");
        Check.circuit(h, "1:t0;h0;t0;s0;h0;");
        Check.circuit(h, "6:0>x5;");
        Check.circuit(h, LONG_TEXT);
        Check.circuit(h, "6:*9[*9[0>x1;0>x2;]]");
        Check.circuit(h, "2:h0;1>x0;s0;h1;0>x1;s1;h0;0>x1;h1;s1;h0;s0;w01;y0;x1;");
        for (int i = 0; i < 5; i++) {
            h.link(i, i + 1, true);
        }
        return h;
    }

    private static String longText() {
        StringBuilder text = new StringBuilder("6:");
        for (int i = 0; i < 50; i++) {
            int other = (i * i + 1 + i) % 6 == i % 6 ? (i + 1) % 6 : (i * i + 1 + i) % 6;
            text.append(i % 6).append(">x").append(other).append(";");
        }
        return text.toString();
    }

    /** How many fields and elements an object has with all its parts. */
    private static long visit(Object object, Map<Object, Boolean> parts) throws IllegalAccessException {
        if (object == null || parts.put(object, true) != null) {
            return 0;
        }
        long elements = 0;
        if (object.getClass().isArray()) {
            int length = Array.getLength(object);
            for (int i = 0; i < length && !object.getClass().getComponentType().isPrimitive(); i++) {
                elements += visit(Array.get(object, i), parts);
            }
            return elements + length;
        }
        for (Field field : object.getClass().getDeclaredFields()) {
            if (Modifier.isStatic(field.getModifiers())) {
                continue;
            }
            elements++;
            if (!field.getType().isPrimitive()) {
                field.setAccessible(true);
                elements += visit(field.get(object), parts);
            }
        }
        return elements;
    }

    private interface Call {
        void on(RootHouse house);
    }
}

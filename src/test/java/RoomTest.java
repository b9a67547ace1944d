import java.lang.reflect.Array;
import java.lang.reflect.Field;
import java.lang.reflect.Modifier;
import java.util.IdentityHashMap;
import java.util.Map;

/** What one house keeps when all of it was used: a run's room is some 600,000 objects and 7.3 million elements. */
public final class RoomTest {
    private static final Check CHECK = new Check("room");
    private static long elements = 0;

    public static void main(String[] args) throws IllegalAccessException {
        RootHouse h = new RootHouse();
        CHECK.yes("a new house is small: " + count(h), elements < 20000);
        useAll(h);
        CHECK.yes("few objects: " + count(h), count(h) < 200);
        CHECK.yes("all of it: " + elements, elements < 700000);
        long before = elements;
        for (int i = 0; i < 100; i++) {
            h.clear();
            useAll(h);
        }
        count(h);
        CHECK.same("rows are used again", elements, before);
        CHECK.end();
    }

    private static void useAll(RootHouse h) {
        int c = Check.circuit(h, "2:h0;0>x1;");
        h.derive(6, c, 0);
        h.least(0xFAC688);
        for (int i = 0; i < 5; i++) {
            h.link(i, i + 1, true);
        }
        StringBuilder text = new StringBuilder("6:");
        for (int i = 0; i < 50; i++) {
            text.append(i % 6).append(">x").append((i * i + 1 + i) % 6 == i % 6 ? (i + 1) % 6 : (i * i + 1 + i) % 6).append(";");
        }
        h.route(Check.circuit(h, text.toString()));
        h.route(Check.circuit(h, "6:*9[*9[0>x1;0>x2;]]"));
        h.kin(6, 1234, 0);
        h.tensor(1, 5);
        h.cost(9);
        h.sum(0);
        h.ladder(1, true);
        h.form(Check.circuit(h, "1:t0;h0;"));
        h.begin(c, 0, 0);
        h.run(1);
        h.group(0, 0);
        h.diagram(c);
        h.reduce();
        h.density(2, 0);
        h.mix(c, 0);
        Check.type(h, "XX,ZZ");
        h.code();
        h.codes(2);
    }

    private static int count(Object house) throws IllegalAccessException {
        Map<Object, Boolean> seen = new IdentityHashMap<>();
        elements = 0;
        visit(house, seen);
        return seen.size();
    }

    private static void visit(Object object, Map<Object, Boolean> seen) throws IllegalAccessException {
        if (object == null || seen.put(object, true) != null) {
            return;
        }
        if (object.getClass().isArray()) {
            elements += Array.getLength(object);
            for (int i = 0; i < Array.getLength(object) && !object.getClass().getComponentType().isPrimitive(); i++) {
                visit(Array.get(object, i), seen);
            }
            return;
        }
        for (Field field : object.getClass().getDeclaredFields()) {
            if (Modifier.isStatic(field.getModifiers())) {
                continue;
            }
            elements++;
            if (!field.getType().isPrimitive()) {
                field.setAccessible(true);
                visit(field.get(object), seen);
            }
        }
    }
}

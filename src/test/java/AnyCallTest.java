import java.lang.reflect.InvocationTargetException;
import java.lang.reflect.Method;
import java.lang.reflect.Modifier;
import java.util.ArrayList;
import java.util.Arrays;
import java.util.Comparator;
import java.util.List;
import java.util.Random;

/** Any call with any arguments in any state ends, and throws at most what its own line in the document names. */
public final class AnyCallTest {
    private static final Check CHECK = new Check("any call");
    private static final int[] EDGES = {Integer.MIN_VALUE, Integer.MAX_VALUE, -1, -2, 9, 15, 16, 20, 31, 32, 60, 100,
        159, 160, 255, 256, 300, 308, 400, 401, 1000000, 65535, 65536, 0xFAC688};
    private static final String[] TEXTS = {"1:h0;t0;", "2:h0;0>x1;m00;?0[x1;]", "3:*3[h0;0>x1;t2;]", "2:0>y1;s0;w01;",
        "6:0>x5;1>x4;2>x3;", "XX,ZZ", "XZZXI,IXZZX,XIXZZ,ZXIXZ", "4:h0;h1;h2;h3;0>z1;1>z2;2>z3;s0;s1;z2;", "8:0>1>2>x7;",
        "1:@a1[t0;h0;]*9[@a0;-@a0;]", "2:q", "ZZZZZZZZ"};

    public static void main(String[] args) throws IllegalAccessException {
        List<Method> calls = new ArrayList<>();
        for (Method method : RootHouse.class.getDeclaredMethods()) {
            if (Modifier.isPublic(method.getModifiers())) {
                calls.add(method);
            }
        }
        calls.sort(Comparator.comparing(Method::getName));
        Random random = new Random(7);
        for (int round = 0; round < 400; round++) {
            RootHouse house = new RootHouse();
            int made = 0;
            while (made < 500) {
                if (random.nextInt(6) == 0) {
                    made += typeSome(house, TEXTS[random.nextInt(TEXTS.length)]);
                }
                int pick = random.nextInt(calls.size() + 6);
                String common = pick % 2 == 0 ? "circuit" : pick % 3 == 0 ? "code" : "run";
                Method method = pick < calls.size() ? calls.get(pick) : find(calls, common);
                call(house, method, random);
                made++;
            }
        }
        CHECK.end();
    }

    /** The TAPE may be full: then nothing more goes to it. How many calls that takes. */
    private static int typeSome(RootHouse house, String text) {
        int calls = 0;
        for (int i = 0; i < text.length(); i += 8) {
            String piece = text.substring(i, Math.min(text.length(), i + 8));
            long word = 0;
            for (char c : piece.toCharArray()) {
                word = word << 8 | c;
            }
            house.type(word, piece.length());
            calls++;
        }
        return calls;
    }

    private static Method find(List<Method> calls, String name) {
        return calls.stream().filter(m -> m.getName().equals(name)).findFirst().get();
    }

    private static void call(RootHouse house, Method method, Random random) throws IllegalAccessException {
        Class<?>[] types = method.getParameterTypes();
        Object[] values = new Object[types.length];
        for (int i = 0; i < types.length; i++) {
            int small = random.nextInt(12) == 0 ? EDGES[random.nextInt(EDGES.length)] : random.nextInt(8);
            int value = random.nextInt(50) == 0 ? random.nextInt() : small;
            values[i] = types[i] == long.class ? (Object) random.nextLong() : types[i] == boolean.class
                ? (Object) random.nextBoolean() : (Object) value;
        }
        boolean fits = true;
        Object got = null;
        try {
            got = method.invoke(house, values);
        } catch (InvocationTargetException e) {
            got = e.getCause();
            fits = Arrays.asList(method.getExceptionTypes()).contains(got.getClass());
        }
        CHECK.yes(method.getName() + Arrays.toString(values) + " ended with " + got, fits);
    }
}

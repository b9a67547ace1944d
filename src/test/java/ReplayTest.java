import java.io.IOException;
import java.lang.reflect.InvocationTargetException;
import java.lang.reflect.Method;
import java.lang.reflect.Modifier;
import java.nio.file.Files;
import java.nio.file.Path;
import java.util.HashMap;
import java.util.List;
import java.util.Map;

/**
 * Plays the runs in src/test/data, a call a line with the answer that is due behind a tab.
 * The answers were worked out by other programs, one for each file, each written anew from the document
 * and in the plainest way (whole matrices, all PAULIS, all ways), with calls drawn by lot: ordinary ones,
 * edges and wrong ones.
 */
public final class ReplayTest {
    private static final Check CHECK = new Check("runs by lot");
    private static final String[] FILES = {"runs.txt", "more-runs.txt"};
    private static final int MOST_CALLS = 512;
    private static final Map<String, Method> CALLS = new HashMap<>();

    public static void main(String[] args) throws IOException, IllegalAccessException {
        for (Method method : RootHouse.class.getDeclaredMethods()) {
            if (Modifier.isPublic(method.getModifiers())) {
                CALLS.put(method.getName(), method);
            }
        }
        Map<String, Integer> counts = new HashMap<>();
        for (String file : FILES) {
            play(file, counts);
        }
        for (String call : CALLS.keySet()) {
            CHECK.yes(call + " is called often enough", counts.getOrDefault(call, 0) >= 4);
        }
        CHECK.end();
    }

    private static void play(String file, Map<String, Integer> counts) throws IOException, IllegalAccessException {
        List<String> lines = Files.readAllLines(Path.of("src/test/data", file));
        RootHouse house = null;
        int calls = 0;
        for (int i = 0; i < lines.size(); i++) {
            String[] sides = lines.get(i).split("\t");
            String[] words = sides[0].split(" ");
            if (words[0].equals("new")) {
                house = new RootHouse();
                calls = 0;
                continue;
            }
            calls++;
            CHECK.yes(file + " line " + (i + 1) + " is within the calls of one object", calls <= MOST_CALLS);
            counts.merge(words[0], 1, Integer::sum);
            CHECK.same(file + " line " + (i + 1) + ": " + sides[0], answer(house, words), sides[1]);
        }
    }

    private static String answer(RootHouse house, String[] words) throws IllegalAccessException {
        Method method = CALLS.get(words[0]);
        Class<?>[] types = method.getParameterTypes();
        Object[] values = new Object[types.length];
        for (int i = 0; i < types.length; i++) {
            long value = Long.parseLong(words[i + 1]);
            values[i] = types[i] == long.class ? (Object) value : types[i] == boolean.class ? (Object) (value == 1)
                : (Object) (int) value;
        }
        try {
            Object got = method.invoke(house, values);
            return got == null ? "0" : got instanceof Boolean yes ? yes ? "1" : "0" : got.toString();
        } catch (InvocationTargetException e) {
            return e.getCause().getClass().getSimpleName();
        }
    }
}

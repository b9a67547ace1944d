import java.io.IOException;
import java.lang.reflect.Constructor;
import java.lang.reflect.Field;
import java.lang.reflect.Method;
import java.lang.reflect.Modifier;
import java.nio.file.Files;
import java.nio.file.Path;
import java.util.HashSet;
import java.util.List;
import java.util.Set;
import java.util.regex.Matcher;
import java.util.regex.Pattern;

/** What of LANGUAGE.md can be seen from the text and the members of the class. */
public final class LanguageTest {
    private static final Check CHECK = new Check("language");
    private static final Set<String> LIBRARY = Set.of("Arrays.fill", "System.arraycopy", "Math.min", "Math.max",
        "Integer.bitCount", "Long.bitCount", "LETTERS.charAt", "LETTERS.indexOf");
    private static final String[] WORDS = {"->", "::", "try", "catch", "finally", "synchronized", "assert", "new Random",
        "System.out", "Exact", "hashCode", "toString", "getMessage", "double", "float", "lambda", "record", "volatile",
        "Thread", "nanoTime", "currentTime", "@Override", "MAX_VALUE", "MIN_VALUE", "static {", "protected"};

    public static void main(String[] args) throws IOException {
        List<String> lines = Files.readAllLines(Path.of("src/main/java/RootHouse.java"));
        members();
        words(lines);
        lengths(lines);
        CHECK.end();
    }

    private static void members() {
        Set<String> face = new HashSet<>();
        for (Method method : RootHouse.class.getDeclaredMethods()) {
            int modifiers = method.getModifiers();
            CHECK.yes(method + " is public or private", Modifier.isPublic(modifiers) || Modifier.isPrivate(modifiers));
            if (Modifier.isPublic(modifiers)) {
                CHECK.yes(method + " is told once", face.add(method.getName()));
            }
        }
        CHECK.same("methods of the face", face.size(), 54);
        for (Constructor<?> constructor : RootHouse.class.getDeclaredConstructors()) {
            CHECK.yes("the constructor", Modifier.isPublic(constructor.getModifiers()));
        }
        for (Field field : RootHouse.class.getDeclaredFields()) {
            CHECK.yes(field + " is private", Modifier.isPrivate(field.getModifiers()) || field.getName().equals("NONE"));
        }
        Class<?>[] inside = RootHouse.class.getDeclaredClasses();
        CHECK.yes("at most twelve classes", inside.length < 12);
        checkClass(RootHouse.class, face);
        for (Class<?> one : inside) {
            CHECK.yes(one + " is static", Modifier.isStatic(one.getModifiers()));
            checkClass(one, face);
        }
    }

    private static void checkClass(Class<?> one, Set<String> face) {
        int fields = 0;
        for (Field field : one.getDeclaredFields()) {
            boolean isStatic = Modifier.isStatic(field.getModifiers());
            CHECK.yes(field + " does not change", !isStatic || Modifier.isFinal(field.getModifiers()));
            fields += isStatic ? 0 : 1;
        }
        CHECK.yes(one + " has some twenty fields", fields <= 20);
        for (Method method : one.getDeclaredMethods()) {
            CHECK.yes(method + " has at most seven parameters", method.getParameterCount() <= 7);
            boolean isPublic = Modifier.isPublic(method.getModifiers());
            CHECK.yes(method + " has a name of its own", isPublic || !face.contains(method.getName()));
        }
    }

    private static void words(List<String> lines) {
        Pattern calls = Pattern.compile("\\b([A-Z][A-Za-z]*)\\.([a-z]\\w*)\\(");
        Set<String> own = new HashSet<>();
        for (Class<?> one : RootHouse.class.getDeclaredClasses()) {
            own.add(one.getSimpleName());
        }
        for (int i = 0; i < lines.size(); i++) {
            String line = lines.get(i);
            String code = line.strip();
            if (code.startsWith("/*") || code.startsWith("*")) {
                continue;
            }
            for (String word : WORDS) {
                String pattern = "(?<![A-Za-z])" + Pattern.quote(word) + "(?![A-Za-z])";
                CHECK.no("line " + (i + 1) + " has " + word, Pattern.compile(pattern).matcher(code).find());
            }
            Matcher matcher = calls.matcher(code);
            while (matcher.find()) {
                boolean known = own.contains(matcher.group(1)) || LIBRARY.contains(matcher.group(1) + "." + matcher.group(2));
                CHECK.yes("line " + (i + 1) + " calls " + matcher.group(), known);
            }
            CHECK.no("line " + (i + 1) + " throws otherwise", code.contains("throw ") && !code.startsWith("throw new "));
            CHECK.yes("line " + (i + 1) + " makes nothing in a call", !code.contains("new ") || isMadeWithTheHouse(code));
        }
    }

    /** Fields and the two constructors that are told how many: all of these run but once, ahead of any call. */
    private static boolean isMadeWithTheHouse(String code) {
        return code.startsWith("throw new ") || code.matches("(private )?final \\S+ \\w+ = new [^;]*;")
            || code.matches("\\w+ = new (int|long)\\[(4 \\* )?most\\];");
    }

    private static void lengths(List<String> lines) {
        int start = 0;
        for (int i = 0; i < lines.size(); i++) {
            String line = lines.get(i);
            CHECK.yes("line " + (i + 1) + " is short enough", line.length() <= 120);
            if (line.matches(" {4,8}[a-z].*\\) (throws [\\w, ]+ )?\\{")) {
                start = i;
            }
            if (line.matches(" {4,8}\\}")) {
                CHECK.yes("the method up to line " + (i + 1), i - start < 60 || !lines.get(start).contains("("));
            }
        }
    }
}

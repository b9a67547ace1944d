import java.io.IOException;
import java.nio.file.Files;
import java.nio.file.Path;
import java.util.List;

/** What README.md says of the class and its tests is so. */
public final class ReadmeTest {
    private static final Check CHECK = new Check("readme");

    public static void main(String[] args) throws IOException {
        String text = Files.readString(Path.of("README.md"));
        use(text);
        tests(text);
        CHECK.end();
    }

    /** Each call of the example stands there with the answer that it has. */
    private static void use(String text) {
        RootHouse house = new RootHouse();
        says(text, "house.type(0x313A68303B7430L, 7);", house.type(0x313A68303B7430L, 7) ? "\"1:h0;t0\"" : "false");
        says(text, "house.type(';', 1);", house.type(';', 1) ? "" : "false");
        int c = house.circuit();
        says(text, "int c = house.circuit();", Integer.toString(c));
        says(text, "house.begin(c, 0, 0);", house.begin(c, 0, 0) ? "a RUN from START 0" : "false");
        says(text, "house.run(400);", house.run(400) + " OPS");
        says(text, "house.amplitude(1, 1);", house.amplitude(1, 1) + ": the ROOT of START 1 is w / r");
        says(text, "house.form(c);", house.form(c) + " letters: " + (char) house.letter(0) + ", " + (char) house.letter(1));
        CHECK.same("over r^k", house.amplitude(1, 4), 1);
    }

    private static void says(String text, String call, String answer) {
        List<String> lines = text.lines().filter(line -> line.startsWith(call)).toList();
        CHECK.same(call + " stands there", lines.size(), 1);
        String comment = lines.isEmpty() ? "" : lines.get(0).substring(call.length()).strip();
        CHECK.same(call, comment, answer.isEmpty() ? "" : "// " + answer);
    }

    /** Each test is named. */
    private static void tests(String text) throws IOException {
        try (var files = Files.list(Path.of("src/test/java"))) {
            for (Path file : files.toList()) {
                String name = file.getFileName().toString().replace(".java", "");
                CHECK.yes(name + " is named", !name.endsWith("Test") || text.contains("`" + name + "`"));
            }
        }
    }
}

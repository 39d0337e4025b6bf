import java.io.ByteArrayOutputStream;
import java.io.IOException;
import java.io.PrintStream;
import java.lang.reflect.Method;
import java.lang.reflect.Modifier;
import java.nio.charset.StandardCharsets;
import java.nio.file.Files;
import java.nio.file.Path;
import java.util.List;
import java.util.stream.Stream;

/** README.md shows Example and what it prints, and names every call and every test. Run from the project's root. */
public final class ReadmeTest {
    private static final Check CHECK = new Check();

    public static void main(String[] args) throws IOException {
        String readme = Files.readString(Path.of("README.md"));
        CHECK.due("the example", between(readme, "```java\n", "```"), Files.readString(Path.of("src/test/java/Example.java")));
        CHECK.due("what it prints", between(readme, "It prints\n\n```\n", "```"), printed());
        for (Method m : MicrocodeOptimizer.class.getDeclaredMethods()) {
            if (Modifier.isPublic(m.getModifiers())) {
                CHECK.due("names " + m.getName(), readme.contains("`" + m.getName() + "`"), true);
            }
        }
        for (String test : tests()) {
            CHECK.due("names " + test, readme.contains("| " + test + " |"), true);
        }
        CHECK.end();
    }

    private static String between(String text, String begin, String end) {
        int at = text.indexOf(begin);
        int from = at + begin.length();
        int to = at < 0 ? -1 : text.indexOf(end, from);
        return to < 0 ? "" : text.substring(from, to);
    }

    private static String printed() {
        PrintStream before = System.out;
        ByteArrayOutputStream bytes = new ByteArrayOutputStream();
        System.setOut(new PrintStream(bytes, true, StandardCharsets.UTF_8));
        Example.main(new String[0]);
        System.setOut(before);
        return bytes.toString(StandardCharsets.UTF_8).replace(System.lineSeparator(), "\n");
    }

    private static List<String> tests() throws IOException {
        try (Stream<Path> files = Files.list(Path.of("src/test/java"))) {
            return files.map(f -> f.getFileName().toString()).filter(n -> n.endsWith("Test.java"))
                    .map(n -> n.replace(".java", "")).sorted().toList();
        }
    }
}

import java.io.IOException;
import java.nio.file.Files;
import java.nio.file.Path;
import java.util.regex.Matcher;
import java.util.regex.Pattern;

/** What README.md says: its example answers as it tells, and it names every method and every test. */
final class ReadmeTest {
    private static final Checks CHECKS = new Checks("readme");
    private static final Pattern TEXT = Pattern.compile("String text = \"([^\"]*)\";");
    // A call, and the answer at the beginning of its comment.
    private static final Pattern CALL = Pattern.compile("(?m)^x\\.(\\w+\\([^()]*\\)); +// (-?\\d+|[A-Z]+)\\b");

    private static void example(String readme) {
        int from = readme.indexOf("```java");
        int to = readme.indexOf("```", from + 1);
        String shown = from < 0 || to < 0 ? "" : readme.substring(from, to);
        Matcher text = TEXT.matcher(shown);
        CHECKS.due("texts in the example", text.find() ? 1 : 0, 1);
        Script x = new Script(CHECKS).text(text.group(1));
        Matcher call = CALL.matcher(shown);
        int calls = 0;
        while (call.find()) {
            x.run(call.group(1) + " = " + call.group(2));
            calls++;
        }
        CHECKS.due("calls of the example without an answer", shown.split("\nx\\.").length - 1 - calls, 0);
    }

    private static void names(String readme) throws IOException {
        for (var method : PackLanes.class.getDeclaredMethods()) {
            if (java.lang.reflect.Modifier.isPublic(method.getModifiers())) {
                CHECKS.due("names " + method.getName(), readme.contains("`" + method.getName()) ? 1 : 0, 1);
            }
        }
        try (var files = Files.list(Path.of("src/test/java"))) {
            for (Path file : (Iterable<Path>) files.sorted()::iterator) {
                String name = file.getFileName().toString().replace(".java", "");
                CHECKS.due("names " + name, readme.contains("`" + name + "`") ? 1 : 0, 1);
            }
        }
    }

    public static void main(String[] args) throws IOException {
        String readme = Files.readString(Path.of("README.md"));
        example(readme);
        names(readme);
        CHECKS.end();
    }
}

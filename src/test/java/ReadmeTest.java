import java.io.IOException;
import java.lang.reflect.Field;
import java.lang.reflect.Method;
import java.lang.reflect.Modifier;
import java.nio.file.Files;
import java.nio.file.Path;
import java.util.List;
import java.util.regex.Matcher;
import java.util.regex.Pattern;
import java.util.stream.Stream;

/** README.md: its calls answer what it says, and it names every call, every error and every test. */
public final class ReadmeTest {
    private static final Path README = Path.of("README.md");
    private static final Path TESTS = Path.of("src/test/java");
    private static final String NEW_ROOM = "ProjectionRoom room = new ProjectionRoom();";
    private static final Pattern EXAMPLE = Pattern.compile("(?s)```java\n(.*?)```");
    private static final Pattern CALL = Pattern.compile("room\\.(\\w+\\([^()]*\\)); +// = (-?\\d+)(?: .*)?");

    private static final Dues DUES = new Dues();

    public static void main(String[] args) throws IOException, IllegalAccessException {
        String readme = Files.readString(README);
        example(readme);
        calls(readme);
        errors(readme);
        tests(readme);
        DUES.close("what README.md says");
    }

    private static void example(String readme) {
        Matcher block = EXAMPLE.matcher(readme);
        DUES.due("there is an example", block.find());
        List<String> lines = block.group(1).lines().toList();
        DUES.due("the example begins with a new room", lines.get(0).equals(NEW_ROOM));
        StringBuilder run = new StringBuilder();
        for (String line : lines.subList(1, lines.size())) {
            Matcher call = CALL.matcher(line);
            boolean isCall = call.matches();
            DUES.due("a call with its answer: " + line, isCall);
            if (isCall) {
                run.append(call.group(1)).append(" = ").append(call.group(2)).append('\n');
            }
        }
        for (String wrong : new Script().wrongAnswers(run.toString())) {
            DUES.due(wrong, false);
        }
    }

    private static void calls(String readme) {
        for (Method method : ProjectionRoom.class.getDeclaredMethods()) {
            if (Modifier.isPublic(method.getModifiers())) {
                DUES.due("it names " + method.getName(), readme.contains("`" + method.getName() + "`"));
            }
        }
    }

    private static void errors(String readme) throws IllegalAccessException {
        for (Field field : ProjectionRoom.class.getFields()) {
            if (field.getInt(null) < 0) {
                String error = "`" + field.getName() + "` (" + field.getInt(null) + ")";
                DUES.due("it names " + error, readme.contains(error));
            }
        }
    }

    private static void tests(String readme) throws IOException {
        try (Stream<Path> files = Files.list(TESTS)) {
            for (Path file : files.sorted().toList()) {
                String name = file.getFileName().toString().replace(".java", "");
                DUES.due("it names " + name, readme.contains("`" + name + "`"));
            }
        }
    }
}

import java.io.IOException;
import java.lang.reflect.Method;
import java.lang.reflect.Modifier;
import java.nio.file.Files;
import java.nio.file.Path;
import java.util.ArrayList;
import java.util.HashMap;
import java.util.List;
import java.util.Map;
import java.util.regex.Matcher;
import java.util.regex.Pattern;
import java.util.stream.Stream;

/** README.md: its example answers so as it says, and it leaves out no call and no test. */
public final class ReadmeTest {
    private static final Path README = Path.of("README.md");
    private static final Path TESTS = Path.of("src/test/java");
    private static final String MAKING = "BoardDesk desk = new BoardDesk();";
    private static final Pattern CALL = Pattern.compile(
            "(?:(?:int |boolean )?(\\w+) = )?desk\\.(\\w+)\\((.*)\\); +// (\\S+)");

    private static final Due due = new Due();

    public static void main(String[] args) throws IOException, ReflectiveOperationException {
        List<String> lines = Files.readAllLines(README);
        theExampleAnswersSo(lines);
        everyCallIsTold(lines);
        everyTestIsTold(lines);
        due.finish();
    }

    private static void theExampleAnswersSo(List<String> lines)
            throws ReflectiveOperationException {
        List<String> example = example(lines);
        due.yes("the example has calls", example.size() > 1);
        due.same("the example begins", example.get(0), MAKING);
        BoardDesk desk = new BoardDesk();
        Map<String, Object> known = new HashMap<>();
        for (String line : example.subList(1, example.size())) {
            Matcher call = CALL.matcher(line);
            due.yes(line + " is a call with its answer", call.matches());
            if (call.matches()) {
                Object answer = answer(desk, call.group(2), arguments(call.group(3), known));
                due.same(line, String.valueOf(answer), call.group(4));
                known.put(String.valueOf(call.group(1)), answer);
            }
        }
    }

    private static List<String> example(List<String> lines) {
        int start = lines.indexOf("```java");
        List<String> behind = lines.subList(start + 1, lines.size());
        return behind.subList(0, behind.indexOf("```"));
    }

    private static List<Object> arguments(String written, Map<String, Object> known) {
        List<Object> arguments = new ArrayList<>();
        for (String one : written.split(", ")) {
            if (known.containsKey(one)) {
                arguments.add(known.get(one));
            } else if (!one.isEmpty()) {
                arguments.add(Integer.valueOf(one));
            }
        }
        return arguments;
    }

    private static Object answer(BoardDesk desk, String name, List<Object> arguments)
            throws ReflectiveOperationException {
        return method(name).invoke(desk, arguments.toArray());
    }

    private static Method method(String name) throws NoSuchMethodException {
        for (Method method : BoardDesk.class.getDeclaredMethods()) {
            if (method.getName().equals(name)) {
                return method;
            }
        }
        throw new NoSuchMethodException(name);
    }

    private static void everyCallIsTold(List<String> lines) {
        for (Method method : BoardDesk.class.getDeclaredMethods()) {
            if (Modifier.isPublic(method.getModifiers())) {
                String row = "| `" + method.getName() + "(";
                due.yes(row + " is told", lines.stream().anyMatch(line -> line.startsWith(row)));
            }
        }
    }

    private static void everyTestIsTold(List<String> lines) throws IOException {
        try (Stream<Path> files = Files.list(TESTS)) {
            for (Path file : files.toList()) {
                String name = file.getFileName().toString().replace(".java", "");
                if (name.endsWith("Test")) {
                    due.yes(name + " is told",
                            lines.stream().anyMatch(line -> line.contains("`" + name + "`")));
                }
            }
        }
    }
}

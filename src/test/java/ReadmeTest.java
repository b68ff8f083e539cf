import java.io.IOException;
import java.lang.reflect.Method;
import java.lang.reflect.Modifier;
import java.nio.file.Files;
import java.nio.file.Path;
import java.util.List;
import java.util.regex.Matcher;
import java.util.regex.Pattern;
import java.util.stream.Stream;

/** README.md: the answers that its example tells are those that are given, and nothing is left out. */
public final class ReadmeTest {
    private static final Pattern CALL =
            Pattern.compile("office\\.(\\w+)\\(([^)]*)\\);\\s*// (-?\\d+)\\b.*");
    private static final Check check = new Check();

    public static void main(String[] args) throws IOException, ReflectiveOperationException {
        String readme = Files.readString(Path.of("README.md"));
        exampleAnswersAsTold(readme);
        callsAndConstantsAreNamed(readme);
        testsAreNamed(readme);
        check.finish();
    }

    private static void exampleAnswersAsTold(String readme) throws ReflectiveOperationException {
        check.sentence("README: the example");
        List<String> lines = example(readme);
        check.due("first line: " + lines.get(0),
                lines.get(0).equals("DrainOffice office = new DrainOffice();") ? 1 : 0, 1);
        DrainOffice office = new DrainOffice();
        for (String line : lines.subList(1, lines.size())) {
            Matcher call = CALL.matcher(line);
            boolean isCall = call.matches();
            check.due("a call with its answer: " + line, isCall ? 1 : 0, 1);
            if (isCall) {
                int got = answer(office, call.group(1), call.group(2));
                check.due(line, got, Integer.parseInt(call.group(3)));
            }
        }
    }

    private static List<String> example(String readme) {
        String opens = "```java\n";
        int start = readme.indexOf(opens) + opens.length();
        return readme.substring(start, readme.indexOf("\n```", start)).lines().toList();
    }

    private static int answer(DrainOffice office, String name, String written)
            throws ReflectiveOperationException {
        String[] words = written.isEmpty() ? new String[0] : written.split(", ");
        for (Method method : DrainOffice.class.getDeclaredMethods()) {
            if (method.getName().equals(name) && method.getParameterCount() == words.length) {
                return (int) method.invoke(office, arguments(method.getParameterTypes(), words));
            }
        }
        throw new NoSuchMethodException(name);
    }

    private static Object[] arguments(Class<?>[] types, String[] words) {
        Object[] arguments = new Object[words.length];
        for (int i = 0; i < words.length; i++) {
            if (types[i] == boolean.class) {
                arguments[i] = Boolean.valueOf(words[i]);
            } else {
                arguments[i] = Integer.valueOf(words[i]);
            }
        }
        return arguments;
    }

    private static void callsAndConstantsAreNamed(String readme) throws IllegalAccessException {
        check.sentence("README: every call and constant");
        for (Method method : DrainOffice.class.getDeclaredMethods()) {
            if (Modifier.isPublic(method.getModifiers())) {
                check.due(method.getName(), readme.contains("`" + method.getName() + "(") ? 1 : 0, 1);
            }
        }
        for (var constant : DrainOffice.class.getFields()) {
            String row = "| `" + constant.getName() + "` | " + constant.getInt(null) + " |";
            check.due(row, readme.contains(row) ? 1 : 0, 1);
        }
    }

    private static void testsAreNamed(String readme) throws IOException {
        check.sentence("README: every file under src/test/java");
        try (Stream<Path> files = Files.list(Path.of("src/test/java"))) {
            for (Path file : files.toList()) {
                String name = file.getFileName().toString().replace(".java", "");
                check.due(name, readme.contains("`" + name + "`") ? 1 : 0, 1);
            }
        }
    }
}

import java.io.IOException;
import java.lang.reflect.Method;
import java.lang.reflect.Modifier;
import java.nio.file.Files;
import java.nio.file.Path;
import java.util.Set;
import java.util.TreeSet;
import java.util.regex.Matcher;
import java.util.regex.Pattern;
import java.util.stream.Collectors;
import java.util.stream.Stream;

/** What README.md says: the answers of its example, the calls, the codes, the command, the tests. */
public final class ReadmeTest {
    private static final String MADE = "KeyedReconciler x = new KeyedReconciler();";
    private static final Pattern STATEMENT =
            Pattern.compile("x\\.(\\w+)\\(((?:-?\\d+(?:, -?\\d+)*)?)\\); +// (.+)");
    private static final Pattern ANSWER = Pattern.compile("(-?\\d+|[A-Z_]+)(?:: .+)?");

    public static void main(String[] args) throws IOException, ReflectiveOperationException {
        String readme = Files.readString(Path.of("README.md"));
        exampleAnswersAsItSays(between(readme, "```java\n", "```\n"));
        callsAreThoseOfTheFace(between(readme, "| call |", "\n\n"));
        codesAreThoseOfTheFace(readme);
        String tests = between(readme, "## How to run its tests\n", "\n## ");
        commandIsThere(tests);
        testsAreThoseOfTheProject(between(tests, "| test |", "\n\n"));
        Due.end();
    }

    private static String between(String text, String start, String end) {
        int from = text.indexOf(start);
        Due.text("README.md has '" + start.strip() + "'", from < 0 ? "no" : "yes", "yes");
        String rest = text.substring(from + start.length());
        int to = rest.indexOf(end);
        return to < 0 ? rest : rest.substring(0, to);
    }

    private static void exampleAnswersAsItSays(String example) throws ReflectiveOperationException {
        KeyedReconciler x = new KeyedReconciler();
        Set<String> shown = new TreeSet<>();
        String[] lines = example.split("\n");
        Due.text("the example's first line", lines[0], MADE);
        for (int i = 1; i < lines.length; i++) {
            if (!lines[i].isEmpty()) {
                shown.add(answersAsItSays(x, lines[i]));
            }
        }
        Due.text("the calls that the example shows", shown.toString(), namesOfTheFace().toString());
    }

    private static String answersAsItSays(KeyedReconciler x, String line) throws ReflectiveOperationException {
        Matcher statement = STATEMENT.matcher(line);
        Due.text("a call with its answer: " + line, statement.matches() ? "yes" : "no", "yes");
        if (!statement.matches()) {
            return line;
        }
        Integer[] given = numbers(statement.group(2));
        Class<?>[] types = Stream.of(given).map(number -> int.class).toArray(Class<?>[]::new);
        Method call = KeyedReconciler.class.getMethod(statement.group(1), types);
        Object answer = call.invoke(x, (Object[]) given);
        if (call.getReturnType() == int.class) {
            Due.text(line, String.valueOf(answer), saidAnswer(statement.group(3)));
        }
        return call.getName();
    }

    private static Integer[] numbers(String list) {
        return list.isEmpty() ? new Integer[0]
                : Stream.of(list.split(", ")).map(Integer::valueOf).toArray(Integer[]::new);
    }

    private static String saidAnswer(String comment) throws ReflectiveOperationException {
        Matcher answer = ANSWER.matcher(comment);
        if (!answer.matches()) {
            return "not told";
        }
        String said = answer.group(1);
        return Character.isUpperCase(said.charAt(0)) ? String.valueOf(code(said)) : said;
    }

    private static Object code(String name) throws ReflectiveOperationException {
        return KeyedReconciler.class.getField(name).get(null);
    }

    private static Set<String> namesOfTheFace() {
        return publicMethods().map(Method::getName).collect(Collectors.toCollection(TreeSet::new));
    }

    private static Stream<Method> publicMethods() {
        return Stream.of(KeyedReconciler.class.getDeclaredMethods())
                .filter(method -> Modifier.isPublic(method.getModifiers()));
    }

    private static void callsAreThoseOfTheFace(String table) {
        Set<String> due = publicMethods()
                .map(method -> method.getName() + " of " + method.getParameterCount())
                .collect(Collectors.toCollection(TreeSet::new));
        Set<String> got = new TreeSet<>();
        Matcher row = Pattern.compile("(?m)^\\| `(\\w+)\\(([^)]*)\\)` \\|").matcher(table);
        while (row.find()) {
            String given = row.group(2);
            got.add(row.group(1) + " of " + (given.isEmpty() ? 0 : given.split(", ").length));
        }
        Due.text("the calls that are listed", got.toString(), due.toString());
    }

    private static void codesAreThoseOfTheFace(String readme) throws ReflectiveOperationException {
        Set<String> got = new TreeSet<>();
        Matcher listed = Pattern.compile("`([A-Z_]+)` \\((-?\\d+)\\)").matcher(readme);
        while (listed.find()) {
            got.add(listed.group(1));
            Due.text(listed.group(), listed.group(2), String.valueOf(code(listed.group(1))));
        }
        Due.text("the codes that are listed", got.toString(), "[BAD_ARG, FULL, NONE]");
    }

    private static void commandIsThere(String section) {
        String command = section.lines().filter(line -> line.startsWith("    ")).map(String::strip)
                .collect(Collectors.joining(", "));
        Due.text("the command for the tests", command, ".ci/run");
        Due.text("it can be run", Files.isExecutable(Path.of(command)) ? "yes" : "no", "yes");
    }

    private static void testsAreThoseOfTheProject(String table) throws IOException {
        Set<String> got = new TreeSet<>();
        Matcher row = Pattern.compile("(?m)^\\| `(\\w+)` \\|").matcher(table);
        while (row.find()) {
            got.add(row.group(1));
        }
        try (Stream<Path> files = Files.list(Path.of("src/test/java"))) {
            Set<String> due = files.map(file -> file.getFileName().toString())
                    .filter(name -> name.endsWith("Test.java"))
                    .map(name -> name.replace(".java", ""))
                    .collect(Collectors.toCollection(TreeSet::new));
            Due.text("the tests that are listed", got.toString(), due.toString());
        }
    }
}

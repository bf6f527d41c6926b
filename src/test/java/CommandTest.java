import java.io.File;
import java.io.IOException;
import java.nio.file.Files;
import java.nio.file.Path;
import java.util.Comparator;
import java.util.LinkedHashMap;
import java.util.List;
import java.util.Map;
import java.util.stream.Stream;

/** .ci/run, the command that README.md names, tried on small projects of the same shape as this one. */
public final class CommandTest {
    private static final String COMMAND = ".ci/run";
    private static final String PROGRAM = "src/main/java/KeyedReconciler.java";
    private static final String OWN = "project/src/test/java/";
    private static final String SHARED = "shared/tests/";
    private static final String NO_JAVA = "this is not Java";
    private static final List<String> ALL = List.of("FirstTest", "SecondTest", "FirstRuns", "SecondRuns");

    public static void main(String[] args) throws IOException, InterruptedException {
        trial("all tests pass", Map.of(), 0, ALL);
        trial("a test of the project fails",
                Map.of(OWN + "FirstTest.java", test("FirstTest", "System.exit(1);")), 1, ALL);
        trial("the last test of the project throws",
                Map.of(OWN + "SecondTest.java", test("SecondTest", "throw new IllegalStateException();")), 1, ALL);
        trial("a shared test fails",
                Map.of(SHARED + "FirstRuns.java", test("FirstRuns", "System.exit(1);")), 1, ALL);
        trial("the last shared test fails",
                Map.of(SHARED + "SecondRuns.java", test("SecondRuns", "System.exit(1);")), 1, ALL);
        trial("a test of the project is no Java",
                Map.of(OWN + "FirstTest.java", NO_JAVA), 1, List.of("FirstRuns", "SecondRuns"));
        trial("a shared test is no Java",
                Map.of(SHARED + "FirstRuns.java", NO_JAVA), 1, List.of("FirstTest", "SecondTest", "SecondRuns"));
        trial("the program is no Java",
                Map.of("project/" + PROGRAM, NO_JAVA), 1, List.of());
        trial("there is no shared test",
                Map.of(SHARED + "FirstRuns.java", "", SHARED + "SecondRuns.java", ""), 1,
                List.of("FirstTest", "SecondTest"));
        Due.end();
    }

    /** The project in which all tests pass, but for the files that differ; an empty one isn't there. */
    private static void trial(String what, Map<String, String> different, int dueExit, List<String> dueRan)
            throws IOException, InterruptedException {
        Map<String, String> files = allPass();
        files.putAll(different);
        Path folder = Files.createTempDirectory("command");
        for (Map.Entry<String, String> file : files.entrySet()) {
            if (!file.getValue().isEmpty()) {
                Path path = folder.resolve(file.getKey());
                Files.createDirectories(path.getParent());
                Files.writeString(path, file.getValue());
            }
        }
        File told = folder.resolve("told").toFile();
        Process run = new ProcessBuilder("sh", COMMAND)
                .directory(folder.resolve("project").toFile())
                .redirectErrorStream(true)
                .redirectOutput(told)
                .start();
        int exit = run.waitFor();
        String output = Files.readString(told.toPath());
        Due.answer(what + ": exit code", exit, dueExit);
        Due.text(what + ": tests that ran", ALL.stream().filter(test -> ran(test, output)).toList().toString(),
                dueRan.toString());
        remove(folder);
    }

    private static boolean ran(String test, String output) {
        return output.lines().anyMatch(line -> line.equals(test + " runs"));
    }

    private static Map<String, String> allPass() throws IOException {
        Map<String, String> files = new LinkedHashMap<>();
        files.put("project/" + COMMAND, Files.readString(Path.of(COMMAND)));
        files.put("project/" + PROGRAM, Files.readString(Path.of(PROGRAM)));
        files.put(OWN + "FirstTest.java", test("FirstTest", ""));
        files.put(OWN + "SecondTest.java", test("SecondTest", ""));
        files.put(SHARED + "FirstRuns.java", test("FirstRuns", ""));
        files.put(SHARED + "SecondRuns.java", test("SecondRuns", ""));
        return files;
    }

    private static String test(String name, String end) {
        return "public final class " + name + " {\n"
                + "    public static void main(String[] args) {\n"
                + "        new KeyedReconciler().size();\n"
                + "        System.out.println(\"" + name + " runs\");\n"
                + "        " + end + "\n"
                + "    }\n"
                + "}\n";
    }

    private static void remove(Path folder) throws IOException {
        try (Stream<Path> paths = Files.walk(folder)) {
            for (Path path : paths.sorted(Comparator.reverseOrder()).toList()) {
                Files.delete(path);
            }
        }
    }
}

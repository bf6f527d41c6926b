import java.io.IOException;
import java.nio.file.Files;
import java.nio.file.Path;
import java.util.ArrayList;
import java.util.LinkedHashMap;
import java.util.List;
import java.util.Map;
import java.util.regex.Matcher;
import java.util.regex.Pattern;
import java.util.stream.Collectors;
import java.util.stream.Stream;

/** Rules 1 to 8 and 10 of LANGUAGE.md, as far as the program's text shows them. */
public final class FormTest {
    private static final Path SOURCES = Path.of("src/main/java");
    private static final Path PROGRAM = SOURCES.resolve("KeyedReconciler.java");
    private static final Pattern METHOD = Pattern.compile("(?m)^    (public|private) (?:int|long|boolean|void)"
            + " (\\w+)\\(([^)]*)\\) \\{\n((?:.*\n)*?)    \\}\n");
    private static final Pattern CALL = Pattern.compile("(\\w+)\\(");
    private static final Pattern LOOP = Pattern.compile("\\b(?:for|while|do)\\b");
    private static final Pattern COUNTED_LOOP =
            Pattern.compile("for \\(int (\\w+) = [\\w +]+; \\1 < (\\w+); \\1\\+\\+\\) \\{");
    private static final Pattern INDEX = Pattern.compile("(?<!new int)\\[([^\\]]+)\\]");
    private static final List<String> NO_CALLS = List.of("if", "for", "while", "switch", "return");

    private record Method(boolean isPrivate, String parameters, String body) {
    }

    public static void main(String[] args) throws IOException {
        String text = withoutComments(Files.readString(PROGRAM));
        Map<String, Method> methods = methods(text);
        Due.text("the methods were found", methods.size() > 19 ? "yes" : "no", "yes");
        oneFile();
        nothingIsOverlooked(text);
        forbiddenWords(text);
        ownNames(text);
        staticFields(text);
        arrays(text);
        divisions(text);
        for (Map.Entry<String, Method> method : methods.entrySet()) {
            String name = method.getKey();
            String body = method.getValue().body;
            callsOwnMethodsAlone(name, body, methods);
            callsStandAlone(name, body);
            loopsAreCounted(name, body);
            indicesAreLookedAt(name, method.getValue());
            int lines = body.split("\n").length;
            Due.text(name + " is short", lines <= 60 ? "yes" : lines + " lines", "yes");
        }
        callsEnd(methods);
        Due.end();
    }

    private static String withoutComments(String text) {
        return text.replaceAll("(?s)/\\*.*?\\*/", "").replaceAll("//[^\n]*", "");
    }

    private static Map<String, Method> methods(String text) {
        Map<String, Method> found = new LinkedHashMap<>();
        Matcher method = METHOD.matcher(text);
        while (method.find()) {
            found.put(method.group(2),
                    new Method(method.group(1).equals("private"), method.group(3), method.group(4)));
        }
        return found;
    }

    private static void oneFile() throws IOException {
        try (Stream<Path> files = Files.walk(SOURCES)) {
            String found = files.filter(Files::isRegularFile).map(Path::toString)
                    .collect(Collectors.joining(", "));
            Due.text("the files of the program", found, PROGRAM.toString());
        }
    }

    /** What is neither a field, the constructor nor a method that was found would not be tested. */
    private static void nothingIsOverlooked(String text) {
        String rest = METHOD.matcher(text).replaceAll("")
                .replaceAll("(?m)^    (public|private) (static )?(final )?int(\\[\\])? \\w+ = [^;]+;$", "")
                .replace("public KeyedReconciler() {\n    }\n", "")
                .replace("public final class KeyedReconciler {", "");
        Due.text("the text beside fields and methods", rest.strip(), "}");
    }

    private static void forbiddenWords(String text) {
        Matcher found = Pattern.compile("\\b(import|package|float|double|null|throw|throws|try|catch|finally"
                + "|synchronized|assert|instanceof|interface|enum|record|var|this|super|native|protected)\\b"
                + "|->|::|\"|@|\\[\\]\\[\\]")
                .matcher(text);
        Due.text("words outside the rules", found.find() ? found.group() : "none", "none");
    }

    /** A class of the library would be a name with a capital that isn't one of the program's own. */
    private static void ownNames(String text) {
        List<String> own = new ArrayList<>(List.of("KeyedReconciler"));
        Matcher constant = Pattern.compile("static final int (\\w+)").matcher(text);
        while (constant.find()) {
            own.add(constant.group(1));
        }
        Matcher name = Pattern.compile("\\b[A-Z]\\w*").matcher(text);
        while (name.find()) {
            Due.text(name.group() + " is the program's own", own.contains(name.group()) ? "yes" : "no", "yes");
        }
    }

    private static void staticFields(String text) {
        String rest = text.replaceAll("(?m)^    (public|private) static final int [A-Z_]+ = -?\\d+;$", "");
        Due.text("static beside constants", rest.matches("(?s).*\\bstatic\\b.*") ? "yes" : "no", "no");
    }

    /** Every array is made in its field's initialiser, with a constant length, and stays there. */
    private static void arrays(String text) {
        String rest = text.replaceAll("(?m)^    private final int\\[\\] \\w+ = new int\\[MOST_NODES\\];$", "");
        Due.text("new outside a field's initialiser", rest.matches("(?s).*\\bnew\\b.*") ? "yes" : "no", "no");
        Due.text("an array that is no field", rest.contains("[]") ? "yes" : "no", "no");
    }

    private static void divisions(String text) {
        Due.text("a divisor", text.matches("(?s).*[/%].*") ? "yes" : "none", "none");
    }

    private static void callsOwnMethodsAlone(String name, String body, Map<String, Method> methods) {
        Matcher call = CALL.matcher(body);
        while (call.find()) {
            String called = call.group(1);
            boolean own = methods.containsKey(called) || NO_CALLS.contains(called);
            Due.text(name + " calls " + called + ", a method of the class", own ? "yes" : "no", "yes");
        }
        Due.text(name + " asks an object for something", body.matches("(?s).*\\w\\s*\\.\\s*\\w.*") ? "yes" : "no",
                "no");
    }

    private static void callsStandAlone(String name, String body) {
        Matcher call = CALL.matcher(body);
        while (call.find()) {
            if (!NO_CALLS.contains(call.group(1))) {
                String given = between(body, call.end(), '(', ')');
                Due.text(name + ": a call among the arguments of " + call.group(1),
                        CALL.matcher(given).find() ? given : "none", "none");
            }
        }
    }

    /** A counter goes up by one to a bound, and neither is given another value on the way. */
    private static void loopsAreCounted(String name, String body) {
        Matcher loop = LOOP.matcher(body);
        Matcher counted = COUNTED_LOOP.matcher(body);
        while (loop.find()) {
            boolean isCounted = counted.find(loop.start()) && counted.start() == loop.start();
            Due.text(name + ": a loop is counted", isCounted ? "yes" : "no", "yes");
            if (isCounted) {
                String inside = between(body, counted.end(), '{', '}');
                isLeftAlone(name, inside, counted.group(1));
                isLeftAlone(name, inside, counted.group(2));
            }
        }
    }

    private static void isLeftAlone(String name, String inside, String variable) {
        boolean changed = Pattern.compile("\\b" + variable + "(\\+\\+|--| [-+*&|^]?= | (<<|>>>?)= )"
                + "|(\\+\\+|--)" + variable + "\\b").matcher(inside).find();
        Due.text(name + ": " + variable + " is changed inside its loop", changed ? "yes" : "no", "no");
    }

    /**
     * An index is a plain name that was compared with something in its method before. Where it is a
     * field or was handed to a private method, that stands elsewhere and is left to the reader.
     */
    private static void indicesAreLookedAt(String name, Method method) {
        Matcher index = INDEX.matcher(method.body);
        while (index.find()) {
            String used = index.group(1);
            String before = method.body.substring(0, index.start());
            boolean plain = used.matches("[a-z]\\w*");
            boolean local = method.parameters.matches(".*\\b" + Pattern.quote(used) + "\\b.*")
                    ? !method.isPrivate
                    : before.matches("(?s).*\\bint " + Pattern.quote(used) + "\\b.*");
            boolean lookedAt = before.matches("(?s).*(\\b" + Pattern.quote(used) + " (==|!=|<) |isPlace\\("
                    + Pattern.quote(used) + "\\)).*");
            Due.text(name + ": the index " + used + " was looked at",
                    plain && (lookedAt || !local) ? "yes" : "no", "yes");
        }
    }

    private static String between(String body, int start, char opens, char closes) {
        int depth = 1;
        int at = start;
        while (depth > 0) {
            char c = body.charAt(at);
            depth += c == opens ? 1 : c == closes ? -1 : 0;
            at++;
        }
        return body.substring(start, at - 1);
    }

    /** Calls that went round in a circle would be deeper than any bound. */
    private static void callsEnd(Map<String, Method> methods) {
        for (String name : methods.keySet()) {
            int depth = depth(name, methods, 0);
            Due.text(name + " calls six deep at most", depth <= 6 ? "yes" : depth + " deep", "yes");
        }
    }

    private static int depth(String name, Map<String, Method> methods, int above) {
        int deepest = above + 1;
        Matcher call = CALL.matcher(methods.get(name).body);
        while (call.find() && deepest < 20) {
            if (methods.containsKey(call.group(1))) {
                deepest = Math.max(deepest, depth(call.group(1), methods, above + 1));
            }
        }
        return deepest;
    }
}

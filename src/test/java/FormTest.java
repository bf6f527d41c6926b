import java.io.IOException;
import java.nio.file.Files;
import java.nio.file.Path;
import java.util.LinkedHashMap;
import java.util.List;
import java.util.Map;
import java.util.regex.Matcher;
import java.util.regex.Pattern;

/** Rules 2 to 8 and 10 of LANGUAGE.md, as far as the program's text shows them. */
public final class FormTest {
    private static final Path PROGRAM = Path.of("src/main/java/KeyedReconciler.java");
    private static final Pattern METHOD = Pattern.compile(
            "(?m)^    (?:public|private) (?:int|long|boolean|void) (\\w+)\\([^)]*\\) \\{\n((?:.*\n)*?)    \\}\n");
    private static final Pattern CALL = Pattern.compile("(\\w+)\\(");
    private static final List<String> NO_CALLS = List.of("if", "for", "while", "switch", "return");

    public static void main(String[] args) throws IOException {
        String text = withoutComments(Files.readString(PROGRAM));
        Map<String, String> bodies = bodies(text);
        Due.text("the methods were found", bodies.size() > 19 ? "yes" : "no", "yes");
        forbiddenWords(text);
        arrays(text);
        for (Map.Entry<String, String> method : bodies.entrySet()) {
            callsOwnMethodsAlone(method.getKey(), method.getValue(), bodies);
            callsStandAlone(method.getKey(), method.getValue());
            int lines = method.getValue().split("\n").length;
            Due.text(method.getKey() + " is short", lines <= 60 ? "yes" : lines + " lines", "yes");
        }
        callsEnd(bodies);
        Due.end();
    }

    private static String withoutComments(String text) {
        return text.replaceAll("(?s)/\\*.*?\\*/", "").replaceAll("//[^\n]*", "");
    }

    private static Map<String, String> bodies(String text) {
        Map<String, String> found = new LinkedHashMap<>();
        Matcher method = METHOD.matcher(text);
        while (method.find()) {
            found.put(method.group(1), method.group(2));
        }
        return found;
    }

    private static void forbiddenWords(String text) {
        Matcher found = Pattern.compile("\\b(import|package|float|double|String|Object|null|throw|throws"
                + "|try|catch|finally|synchronized|assert|instanceof|interface|enum|record|var|this|super"
                + "|Math|Integer|Long|System|Arrays)\\b|->|::|\"|\\[\\]\\[\\]|while \\(true\\)|for \\(;;\\)")
                .matcher(text);
        Due.text("words outside the rules", found.find() ? found.group() : "none", "none");
    }

    /** Every array is made in its field's initialiser, with a constant length. */
    private static void arrays(String text) {
        String rest = text.replaceAll(
                "(?m)^    private final (int|long|boolean)\\[\\] \\w+ = new \\1\\[[A-Z_0-9]+\\];$", "");
        Due.text("new outside a field's initialiser", rest.matches("(?s).*\\bnew\\b.*") ? "yes" : "no", "no");
        Due.text("a static array", text.matches("(?s).*static[^;=]*\\[\\].*") ? "yes" : "no", "no");
    }

    private static void callsOwnMethodsAlone(String name, String body, Map<String, String> bodies) {
        Matcher call = CALL.matcher(body);
        while (call.find()) {
            String called = call.group(1);
            boolean own = bodies.containsKey(called) || NO_CALLS.contains(called);
            Due.text(name + " calls " + called + ", a method of the class", own ? "yes" : "no", "yes");
        }
    }

    private static void callsStandAlone(String name, String body) {
        Matcher call = CALL.matcher(body);
        while (call.find()) {
            if (!NO_CALLS.contains(call.group(1))) {
                String given = inParentheses(body, call.end());
                Due.text(name + ": a call among the arguments of " + call.group(1),
                        CALL.matcher(given).find() ? given : "none", "none");
            }
        }
    }

    private static String inParentheses(String body, int start) {
        int depth = 1;
        int at = start;
        while (depth > 0) {
            char c = body.charAt(at);
            depth += c == '(' ? 1 : c == ')' ? -1 : 0;
            at++;
        }
        return body.substring(start, at - 1);
    }

    /** Calls that went round in a circle would be deeper than any bound. */
    private static void callsEnd(Map<String, String> bodies) {
        for (String name : bodies.keySet()) {
            int depth = depth(name, bodies, 0);
            Due.text(name + " calls six deep at most", depth <= 6 ? "yes" : depth + " deep", "yes");
        }
    }

    private static int depth(String name, Map<String, String> bodies, int above) {
        int deepest = above + 1;
        Matcher call = CALL.matcher(bodies.get(name));
        while (call.find() && deepest < 20) {
            if (bodies.containsKey(call.group(1))) {
                deepest = Math.max(deepest, depth(call.group(1), bodies, above + 1));
            }
        }
        return deepest;
    }
}

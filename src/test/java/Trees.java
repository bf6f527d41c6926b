import java.util.function.IntUnaryOperator;
import java.util.stream.Collectors;
import java.util.stream.IntStream;

/**
 * Trees as text: a node is its type and its key, one digit each, followed by
 * its children in parentheses if it has any, as in "00(11 23(01 02) 14)".
 */
final class Trees {
    private Trees() {
    }

    static KeyedReconciler shown(String tree) {
        KeyedReconciler x = new KeyedReconciler();
        show(x, tree);
        return x;
    }

    static int show(KeyedReconciler x, String tree) {
        draft(x, tree);
        return x.show();
    }

    static void draft(KeyedReconciler x, String tree) {
        for (int at = 0; at < tree.length(); at++) {
            char c = tree.charAt(at);
            if (c == ')') {
                accepted(x.close(), tree, at);
            } else if (c != ' ' && c != '(') {
                int type = c - '0';
                int key = tree.charAt(at + 1) - '0';
                at++;
                boolean hasChildren = at + 1 < tree.length() && tree.charAt(at + 1) == '(';
                accepted(hasChildren ? x.open(type, key) : x.leaf(type, key), tree, at);
            }
        }
    }

    private static void accepted(int answer, String tree, int at) {
        if (answer < 0) {
            throw new IllegalStateException(tree + " was refused with " + answer + " at " + at);
        }
    }

    static String ids(KeyedReconciler x) {
        return atEachPlace(x, x::id);
    }

    static String kinds(KeyedReconciler x) {
        return atEachPlace(x, x::kind);
    }

    static String states(KeyedReconciler x) {
        return atEachPlace(x, x::state);
    }

    static String parents(KeyedReconciler x) {
        return atEachPlace(x, x::parent);
    }

    static String children(KeyedReconciler x) {
        return atEachPlace(x, x::children);
    }

    /** Everything that can be seen of an object without changing it. */
    static String all(KeyedReconciler x) {
        return "drafted " + x.drafted() + ", kept " + x.kept() + ", gone " + x.gone()
                + ", moves " + x.moves() + ", size " + x.size() + ", ids " + ids(x)
                + ", kinds " + kinds(x) + ", states " + states(x) + ", parents " + parents(x)
                + ", children " + children(x) + ", digest " + x.digest();
    }

    private static String atEachPlace(KeyedReconciler x, IntUnaryOperator question) {
        return IntStream.range(0, x.size())
                .map(question)
                .mapToObj(Integer::toString)
                .collect(Collectors.joining(" "));
    }
}

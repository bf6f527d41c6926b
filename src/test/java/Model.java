import java.util.ArrayDeque;
import java.util.ArrayList;
import java.util.Deque;
import java.util.List;

/**
 * The document once more, told with linked nodes and by trial, so that a
 * fault of the program's arrays is not likely to be one of the model's too.
 */
final class Model {
    private static final class Node {
        final int type;
        final int key;
        final Node parent;
        final List<Node> children = new ArrayList<>();
        int id = 0;
        int state = 0;
        Node keptOf = null;

        Node(int type, int key, Node parent) {
            this.type = type;
            this.key = key;
            this.parent = parent;
        }

        boolean looksLike(Node other) {
            return type == other.type && key == other.key;
        }

        boolean hasChild(int childKey) {
            return children.stream().anyMatch(child -> child.key == childKey);
        }
    }

    private final Deque<Node> open = new ArrayDeque<>();
    private Node draft = null;
    private Node shown = null;
    private int ids = 0;
    private int kept = 0;
    private int gone = 0;
    private int moves = 0;

    /** What a run came to, so that a test can tell whether it tried much. */
    int shownInAll = 0;
    int movedInAll = 0;
    int fullInAll = 0;

    int open(int type, int key) {
        if (type < 0 || type > 3 || key < 0 || key > 9) {
            return -1;
        }
        if (drafted() == 16) {
            fullInAll++;
            return -2;
        }
        Node parent = open.peek();
        if (parent == null ? draft != null : parent.hasChild(key)) {
            return -4;
        }
        Node node = new Node(type, key, parent);
        if (parent == null) {
            draft = node;
        } else {
            parent.children.add(node);
        }
        open.push(node);
        return open.size();
    }

    int close() {
        return open.poll() == null ? -4 : open.size();
    }

    int leaf(int type, int key) {
        int answer = open(type, key);
        return answer < 0 ? answer : close();
    }

    void scrap() {
        draft = null;
        open.clear();
    }

    int drafted() {
        return places(draft).size();
    }

    int recall() {
        scrap();
        draft = shown == null ? null : copy(shown, null);
        return drafted();
    }

    int show() {
        if (draft == null || !open.isEmpty()) {
            return -4;
        }
        int before = size();
        keep(draft, shown);
        kept = 0;
        moves = 0;
        for (Node node : places(draft)) {
            if (node.keptOf == null) {
                node.id = ids++;
            } else {
                node.id = node.keptOf.id;
                node.state = node.keptOf.state;
                kept++;
                moves += movesAt(node);
            }
        }
        gone = before - kept;
        shownInAll++;
        movedInAll += moves;
        shown = draft;
        scrap();
        return size() - kept;
    }

    int kept() {
        return kept;
    }

    int gone() {
        return gone;
    }

    int moves() {
        return moves;
    }

    int size() {
        return places(shown).size();
    }

    int id(int i) {
        Node node = at(i);
        return node == null ? -4 : node.id;
    }

    int kind(int i) {
        Node node = at(i);
        return node == null ? -4 : 10 * node.type + node.key;
    }

    int state(int i) {
        Node node = at(i);
        return node == null ? -4 : node.state;
    }

    int put(int i, int s) {
        Node node = at(i);
        if (node == null) {
            return -4;
        }
        if (s < 0) {
            return -1;
        }
        int before = node.state;
        node.state = s;
        return before;
    }

    int place(int id) {
        List<Node> nodes = places(shown);
        for (Node node : nodes) {
            if (node.id == id) {
                return nodes.indexOf(node);
            }
        }
        return -4;
    }

    int parent(int i) {
        Node node = at(i);
        return node == null || node.parent == null ? -4 : places(shown).indexOf(node.parent);
    }

    int children(int i) {
        Node node = at(i);
        return node == null ? -4 : node.children.size();
    }

    int digest() {
        long sum = 0;
        long factor = 1;
        for (Node node : places(shown)) {
            sum += factor * (node.id + 1L) * (node.state + 1L);
            factor++;
        }
        return (int) sum;
    }

    private Node at(int i) {
        List<Node> nodes = places(shown);
        return i < 0 || i >= nodes.size() ? null : nodes.get(i);
    }

    private static List<Node> places(Node root) {
        List<Node> nodes = new ArrayList<>();
        if (root != null) {
            nodes.add(root);
            root.children.forEach(child -> nodes.addAll(places(child)));
        }
        return nodes;
    }

    private static Node copy(Node node, Node parent) {
        Node made = new Node(node.type, node.key, parent);
        node.children.forEach(child -> made.children.add(copy(child, made)));
        return made;
    }

    private static void keep(Node node, Node old) {
        if (old == null || !node.looksLike(old)) {
            return;
        }
        node.keptOf = old;
        for (Node child : node.children) {
            old.children.forEach(oldChild -> keep(child, oldChild));
        }
    }

    /** Tries every set of the kept children that could be left standing. */
    private static int movesAt(Node node) {
        List<Node> olds = new ArrayList<>();
        for (Node child : node.children) {
            if (child.keptOf != null) {
                olds.add(child.keptOf);
            }
        }
        int least = olds.size();
        for (int set = 0; set < 1 << olds.size(); set++) {
            int takenOut = olds.size() - Integer.bitCount(set);
            if (takenOut < least && standsInOrder(olds, set, node.keptOf.children)) {
                least = takenOut;
            }
        }
        return least;
    }

    private static boolean standsInOrder(List<Node> olds, int set, List<Node> order) {
        int last = -1;
        for (int i = 0; i < olds.size(); i++) {
            if ((set >> i & 1) == 1) {
                int at = order.indexOf(olds.get(i));
                if (at < last) {
                    return false;
                }
                last = at;
            }
        }
        return true;
    }
}

/**
 * A tree that is shown, and a draft of the tree that it is to become.
 *
 * Both trees are held as nodes in the order of their places. A node is opened
 * after all nodes before its place, so the draft's nodes come in that order
 * by themselves, and a parent always stands before its children.
 */
public final class KeyedReconciler {
    public static final int BAD_ARG = -1;
    public static final int FULL = -2;
    public static final int NONE = -4;

    private static final int MOST_NODES = 16;
    private static final int MOST_TYPE = 3;
    private static final int MOST_KEY = 9;
    private static final int ALLOWED = 0;
    private static final int NOWHERE = -1;

    private final int[] draftType = new int[MOST_NODES];
    private final int[] draftKey = new int[MOST_NODES];
    private final int[] draftParent = new int[MOST_NODES];
    private int draftSize = 0;
    private int openCount = 0;
    private int lastOpen = NOWHERE;

    private final int[] shownType = new int[MOST_NODES];
    private final int[] shownKey = new int[MOST_NODES];
    private final int[] shownParent = new int[MOST_NODES];
    private final int[] shownId = new int[MOST_NODES];
    private final int[] shownState = new int[MOST_NODES];
    private int shownSize = 0;

    // Used within one showing alone: the place in the shown tree of which a
    // drafted node is kept, and the most kept children up to this one that
    // stand in their old order.
    private final int[] keptOf = new int[MOST_NODES];
    private final int[] orderedUpTo = new int[MOST_NODES];

    // A kept node may take any place, so the old ids and states can't be
    // overwritten before all of them have been read.
    private final int[] nextId = new int[MOST_NODES];
    private final int[] nextState = new int[MOST_NODES];

    private int idsGiven = 0;
    private int lastKept = 0;
    private int lastGone = 0;
    private int lastMoves = 0;

    public KeyedReconciler() {
    }

    public int open(int type, int key) {
        int refusal = refusalToOpen(type, key);
        if (refusal != ALLOWED) {
            return refusal;
        }
        openNode(type, key);
        return openCount;
    }

    public int close() {
        if (lastOpen == NOWHERE) {
            return NONE;
        }
        // The open nodes are the last one opened and all nodes above it, so
        // the one that is the last open one next is its parent.
        lastOpen = draftParent[lastOpen];
        openCount--;
        return openCount;
    }

    public int leaf(int type, int key) {
        int answer = open(type, key);
        return answer < 0 ? answer : close();
    }

    public void scrap() {
        emptyDraft();
    }

    public int drafted() {
        return draftSize;
    }

    public int recall() {
        emptyDraft();
        for (int i = 0; i < shownSize; i++) {
            draftType[i] = shownType[i];
            draftKey[i] = shownKey[i];
            draftParent[i] = shownParent[i];
        }
        draftSize = shownSize;
        return draftSize;
    }

    public int show() {
        if (draftSize == 0 || lastOpen != NOWHERE) {
            return NONE;
        }
        findKeptNodes();
        int keptCount = countKeptNodes();
        int newCount = draftSize - keptCount;
        lastKept = keptCount;
        lastGone = shownSize - keptCount;
        lastMoves = countMoves();
        nameNodes();
        replaceShownTree();
        emptyDraft();
        return newCount;
    }

    public int kept() {
        return lastKept;
    }

    public int gone() {
        return lastGone;
    }

    public int moves() {
        return lastMoves;
    }

    public int size() {
        return shownSize;
    }

    public int id(int i) {
        return isPlace(i) ? shownId[i] : NONE;
    }

    public int kind(int i) {
        return isPlace(i) ? 10 * shownType[i] + shownKey[i] : NONE;
    }

    public int state(int i) {
        return isPlace(i) ? shownState[i] : NONE;
    }

    public int put(int i, int s) {
        if (!isPlace(i)) {
            return NONE;
        }
        if (s < 0) {
            return BAD_ARG;
        }
        int before = shownState[i];
        shownState[i] = s;
        return before;
    }

    public int place(int id) {
        for (int i = 0; i < shownSize; i++) {
            if (shownId[i] == id) {
                return i;
            }
        }
        return NONE;
    }

    public int parent(int i) {
        return isPlace(i) && i != 0 ? shownParent[i] : NONE;
    }

    public int children(int i) {
        if (!isPlace(i)) {
            return NONE;
        }
        int count = 0;
        for (int child = i + 1; child < shownSize; child++) {
            if (shownParent[child] == i) {
                count++;
            }
        }
        return count;
    }

    public int digest() {
        int sum = 0;
        for (int i = 0; i < shownSize; i++) {
            sum += (i + 1) * (shownId[i] + 1) * (shownState[i] + 1);
        }
        return sum;
    }

    private boolean isPlace(int i) {
        return i >= 0 && i < shownSize;
    }

    private int refusalToOpen(int type, int key) {
        if (type < 0 || type > MOST_TYPE || key < 0 || key > MOST_KEY) {
            return BAD_ARG;
        }
        if (draftSize >= MOST_NODES) {
            return FULL;
        }
        if (lastOpen == NOWHERE) {
            return draftSize == 0 ? ALLOWED : NONE;
        }
        return lastOpenHasChild(key) ? NONE : ALLOWED;
    }

    private boolean lastOpenHasChild(int key) {
        for (int i = 0; i < draftSize; i++) {
            if (draftParent[i] == lastOpen && draftKey[i] == key) {
                return true;
            }
        }
        return false;
    }

    private void openNode(int type, int key) {
        draftType[draftSize] = type;
        draftKey[draftSize] = key;
        draftParent[draftSize] = lastOpen;
        lastOpen = draftSize;
        draftSize++;
        openCount++;
    }

    private void emptyDraft() {
        draftSize = 0;
        openCount = 0;
        lastOpen = NOWHERE;
    }

    // A parent stands before its children, so it is known what a node's parent
    // was kept of when the node's turn comes.
    private void findKeptNodes() {
        for (int i = 0; i < draftSize; i++) {
            keptOf[i] = shownNodeLike(i);
        }
    }

    private int shownNodeLike(int draftPlace) {
        int above = draftParent[draftPlace];
        if (above == NOWHERE) {
            return shownSize > 0 && looksLike(draftPlace, 0) ? 0 : NOWHERE;
        }
        int shownAbove = keptOf[above];
        return shownAbove == NOWHERE ? NOWHERE : shownChildLike(draftPlace, shownAbove);
    }

    private int shownChildLike(int draftPlace, int shownAbove) {
        for (int i = shownAbove + 1; i < shownSize; i++) {
            if (shownParent[i] == shownAbove && looksLike(draftPlace, i)) {
                return i;
            }
        }
        return NOWHERE;
    }

    private boolean looksLike(int draftPlace, int shownPlace) {
        return draftType[draftPlace] == shownType[shownPlace]
                && draftKey[draftPlace] == shownKey[shownPlace];
    }

    private int countKeptNodes() {
        int count = 0;
        for (int i = 0; i < draftSize; i++) {
            if (keptOf[i] != NOWHERE) {
                count++;
            }
        }
        return count;
    }

    private int countMoves() {
        int sum = 0;
        for (int i = 0; i < draftSize; i++) {
            sum += movesAt(i);
        }
        return sum;
    }

    // The fewest are taken out when the most are left standing, and those are
    // the longest run of kept children whose old places rise. A new node has
    // no kept children, so it adds nothing.
    private int movesAt(int above) {
        int keptChildren = 0;
        int longest = 0;
        for (int i = above + 1; i < draftSize; i++) {
            if (isKeptChild(i, above)) {
                orderedUpTo[i] = longestOrderBefore(i, above) + 1;
                keptChildren++;
                if (orderedUpTo[i] > longest) {
                    longest = orderedUpTo[i];
                }
            }
        }
        return keptChildren - longest;
    }

    private int longestOrderBefore(int child, int above) {
        int longest = 0;
        for (int i = above + 1; i < child; i++) {
            if (isKeptChild(i, above) && keptOf[i] < keptOf[child] && orderedUpTo[i] > longest) {
                longest = orderedUpTo[i];
            }
        }
        return longest;
    }

    private boolean isKeptChild(int draftPlace, int above) {
        return draftParent[draftPlace] == above && keptOf[draftPlace] != NOWHERE;
    }

    private void nameNodes() {
        for (int i = 0; i < draftSize; i++) {
            int old = keptOf[i];
            if (old == NOWHERE) {
                nextId[i] = idsGiven;
                nextState[i] = 0;
                idsGiven++;
            } else {
                nextId[i] = shownId[old];
                nextState[i] = shownState[old];
            }
        }
    }

    private void replaceShownTree() {
        for (int i = 0; i < draftSize; i++) {
            shownType[i] = draftType[i];
            shownKey[i] = draftKey[i];
            shownParent[i] = draftParent[i];
            shownId[i] = nextId[i];
            shownState[i] = nextState[i];
        }
        shownSize = draftSize;
    }
}

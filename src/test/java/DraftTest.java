/** Promises 1 to 7: a new object and what makes and unmakes a draft. */
public final class DraftTest {
    private static final int BAD_ARG = -1;
    private static final int FULL = -2;
    private static final int NONE = -4;
    private static final String SIXTEEN =
            "00(00(00 01 02 03) 01(00 01 02 03) 02(00 01 02) 03)";

    public static void main(String[] args) {
        promise1NewObject();
        promise2OpenCountsOpenNodes();
        promise2OpenRefusesArguments();
        promise2OpenRefusesSecondRoot();
        promise2OpenRefusesKeyOfSibling();
        promise2OpenTestsInOrder();
        promise2OpenPutsNodesInTheirPlaces();
        promise3Close();
        promise4Leaf();
        promise4LeafIsRefusedAsOpenIs();
        promise5Scrap();
        promise6Drafted();
        promise7RecallWithoutShownTree();
        promise7RecallTakesTheForm();
        promise7RecallReplacesTheDraft();
        Due.end();
    }

    private static void promise1NewObject() {
        KeyedReconciler x = new KeyedReconciler();
        Due.text("new object", Trees.all(x), "drafted 0, kept 0, gone 0, moves 0, size 0, ids ,"
                + " kinds , states , parents , children , digest 0");
        Due.answer("new: show()", x.show(), NONE);
        Due.answer("new: close()", x.close(), NONE);
        Due.answer("new: id(0)", x.id(0), NONE);
        Due.answer("new: kind(0)", x.kind(0), NONE);
        Due.answer("new: state(0)", x.state(0), NONE);
        Due.answer("new: put(0, 1)", x.put(0, 1), NONE);
        Due.answer("new: put(0, -1)", x.put(0, -1), NONE);
        Due.answer("new: place(0)", x.place(0), NONE);
        Due.answer("new: parent(0)", x.parent(0), NONE);
        Due.answer("new: children(0)", x.children(0), NONE);
        KeyedReconciler y = new KeyedReconciler();
        Trees.show(y, "00(01)");
        Due.answer("objects share nothing: size()", x.size(), 0);
        Due.answer("objects share no ids: show()", Trees.show(x, "00"), 1);
        Due.answer("objects share no ids: id(0)", x.id(0), 0);
    }

    private static void promise2OpenCountsOpenNodes() {
        KeyedReconciler x = new KeyedReconciler();
        for (int depth = 1; depth <= 16; depth++) {
            Due.answer("chain: open", x.open(3, 9), depth);
        }
        Due.answer("chain: drafted()", x.drafted(), 16);
        Due.answer("chain: open", x.open(3, 9), FULL);
        for (int left = 15; left >= 0; left--) {
            Due.answer("chain: close()", x.close(), left);
        }
        Due.answer("chain: show()", x.show(), 16);
        Due.text("chain: parents", Trees.parents(x), "-4 0 1 2 3 4 5 6 7 8 9 10 11 12 13 14");
    }

    private static void promise2OpenRefusesArguments() {
        int[][] wrong = {{-1, 0}, {4, 0}, {0, -1}, {0, 10}, {-1, -1}, {4, 10},
            {Integer.MIN_VALUE, 0}, {Integer.MAX_VALUE, 0},
            {0, Integer.MIN_VALUE}, {0, Integer.MAX_VALUE}};
        KeyedReconciler x = new KeyedReconciler();
        for (int[] pair : wrong) {
            Due.answer("open(" + pair[0] + ", " + pair[1] + ")", x.open(pair[0], pair[1]), BAD_ARG);
            Due.answer("leaf(" + pair[0] + ", " + pair[1] + ")", x.leaf(pair[0], pair[1]), BAD_ARG);
        }
        Due.answer("after refused opens: drafted()", x.drafted(), 0);
        Due.answer("after refused opens: close()", x.close(), NONE);
        for (int type = 0; type <= 3; type++) {
            for (int key = 0; key <= 9; key++) {
                x.scrap();
                Due.answer("open(" + type + ", " + key + ")", x.open(type, key), 1);
            }
        }
    }

    private static void promise2OpenRefusesSecondRoot() {
        KeyedReconciler x = new KeyedReconciler();
        Trees.draft(x, "00(01)");
        Due.answer("second root: open(1, 1)", x.open(1, 1), NONE);
        Due.answer("second root: drafted()", x.drafted(), 2);
        Due.answer("second root: close()", x.close(), NONE);
        Due.answer("second root: show()", x.show(), 2);
    }

    private static void promise2OpenRefusesKeyOfSibling() {
        KeyedReconciler x = new KeyedReconciler();
        x.open(0, 7);
        x.open(1, 1);
        Due.answer("key of the parent: leaf(1, 1)", x.leaf(1, 1), 2);
        Due.answer("key of the root: leaf(0, 7)", x.leaf(0, 7), 2);
        x.close();
        Due.answer("key of a sibling: open(1, 1)", x.open(1, 1), NONE);
        Due.answer("key of a sibling, other type: open(2, 1)", x.open(2, 1), NONE);
        Due.answer("key of a sibling: drafted()", x.drafted(), 4);
        Due.answer("key of a sibling's child: open(0, 7)", x.open(0, 7), 2);
        Due.answer("key of the parent's sibling: leaf(1, 1)", x.leaf(1, 1), 2);
        Due.answer("key of the first of two: leaf(0, 2)", x.leaf(0, 2), 2);
        Due.answer("key of the first of two: leaf(0, 1)", x.leaf(0, 1), NONE);
    }

    private static void promise2OpenTestsInOrder() {
        KeyedReconciler x = new KeyedReconciler();
        Trees.draft(x, "00(00(00 01 02 03) 01(00 01 02 03) 02(00 01 02)");
        x.open(0, 3);
        Due.answer("sixteen: drafted()", x.drafted(), 16);
        Due.answer("sixteen, argument out of range: open(4, 0)", x.open(4, 0), BAD_ARG);
        Due.answer("sixteen: open(0, 0)", x.open(0, 0), FULL);
        x.close();
        Due.answer("sixteen, key of a child: open(0, 3)", x.open(0, 3), FULL);
        x.close();
        Due.answer("sixteen, none open: open(0, 0)", x.open(0, 0), FULL);
        Due.answer("sixteen, none open: open(0, 10)", x.open(0, 10), BAD_ARG);
        Due.answer("sixteen: show()", x.show(), 16);
        x.open(0, 0);
        x.leaf(0, 1);
        Due.answer("key of a child, type out of range: open(-1, 1)", x.open(-1, 1), BAD_ARG);
        x.close();
        Due.answer("none open, key out of range: open(0, -1)", x.open(0, -1), BAD_ARG);
    }

    private static void promise2OpenPutsNodesInTheirPlaces() {
        KeyedReconciler x = Trees.shown("00(11(22 33(04)) 15 26(37))");
        Due.text("form: kinds", Trees.kinds(x), "0 11 22 33 4 15 26 37");
        Due.text("form: parents", Trees.parents(x), "-4 0 1 1 3 0 0 6");
        Due.text("form: children", Trees.children(x), "3 2 0 1 0 0 1 0");
    }

    private static void promise3Close() {
        KeyedReconciler x = new KeyedReconciler();
        Due.answer("no node: close()", x.close(), NONE);
        x.open(0, 0);
        x.open(0, 1);
        x.open(0, 2);
        Due.answer("three open: close()", x.close(), 2);
        Due.answer("three open: close()", x.close(), 1);
        Due.answer("opened below the one still open: open(0, 3)", x.open(0, 3), 2);
        Due.answer("two open: close()", x.close(), 1);
        Due.answer("one open: close()", x.close(), 0);
        Due.answer("none open: close()", x.close(), NONE);
        Due.answer("none open: close()", x.close(), NONE);
        Due.answer("closed nodes stay: drafted()", x.drafted(), 4);
        x.show();
        Due.text("closed: parents", Trees.parents(x), "-4 0 1 0");
    }

    private static void promise4Leaf() {
        KeyedReconciler x = new KeyedReconciler();
        Due.answer("as root: leaf(3, 9)", x.leaf(3, 9), 0);
        Due.answer("as root: drafted()", x.drafted(), 1);
        Due.answer("as root: close()", x.close(), NONE);
        Due.answer("as root: show()", x.show(), 1);
        Due.answer("as root: kind(0)", x.kind(0), 39);
        x.open(0, 0);
        Due.answer("below one: leaf(0, 1)", x.leaf(0, 1), 1);
        x.open(0, 2);
        Due.answer("below two: leaf(0, 1)", x.leaf(0, 1), 2);
        Due.answer("below two: leaf(0, 2)", x.leaf(0, 2), 2);
        x.close();
        x.close();
        x.show();
        Due.text("leaves: parents", Trees.parents(x), "-4 0 0 2 2");
    }

    private static void promise4LeafIsRefusedAsOpenIs() {
        KeyedReconciler x = new KeyedReconciler();
        x.leaf(0, 0);
        Due.answer("second root: leaf(0, 1)", x.leaf(0, 1), NONE);
        x.scrap();
        x.open(0, 0);
        x.leaf(0, 1);
        Due.answer("key of a sibling: leaf(3, 1)", x.leaf(3, 1), NONE);
        Due.answer("type out of range, key of a sibling: leaf(4, 1)", x.leaf(4, 1), BAD_ARG);
        x.scrap();
        Trees.draft(x, SIXTEEN);
        Due.answer("sixteen, none open: leaf(0, 0)", x.leaf(0, 0), FULL);
        Due.answer("sixteen, key out of range: leaf(0, 10)", x.leaf(0, 10), BAD_ARG);
        Due.answer("sixteen: drafted()", x.drafted(), 16);
        Due.answer("sixteen: close()", x.close(), NONE);
    }

    private static void promise5Scrap() {
        KeyedReconciler x = Trees.shown("00(01 02)");
        x.put(1, 5);
        String before = Trees.all(x);
        x.scrap();
        Due.text("scrap without a draft", Trees.all(x), before);
        x.open(1, 1);
        x.open(1, 2);
        x.scrap();
        Due.text("scrap leaves the shown tree", Trees.all(x), before);
        Due.answer("scrapped: close()", x.close(), NONE);
        Due.answer("scrapped: show()", x.show(), NONE);
        Due.answer("scrapped: open(1, 1)", x.open(1, 1), 1);
        Due.answer("keys of scrapped nodes are free: open(1, 2)", x.open(1, 2), 2);
        x.scrap();
        Trees.draft(x, SIXTEEN);
        x.scrap();
        Due.answer("scrapped when full: leaf(2, 2)", x.leaf(2, 2), 0);
        Due.answer("scrapped when full: show()", x.show(), 1);
        Due.text("scrapped nodes took no ids", Trees.ids(x), "3");
    }

    private static void promise6Drafted() {
        KeyedReconciler x = new KeyedReconciler();
        x.open(0, 0);
        Due.answer("one open: drafted()", x.drafted(), 1);
        x.leaf(0, 1);
        Due.answer("one open, one closed: drafted()", x.drafted(), 2);
        x.leaf(0, 1);
        Due.answer("a refused one more: drafted()", x.drafted(), 2);
        x.close();
        Due.answer("all closed: drafted()", x.drafted(), 2);
        x.show();
        Due.answer("shown: drafted()", x.drafted(), 0);
        x.recall();
        Due.answer("recalled: drafted()", x.drafted(), 2);
        x.scrap();
        Due.answer("scrapped: drafted()", x.drafted(), 0);
    }

    private static void promise7RecallWithoutShownTree() {
        KeyedReconciler x = new KeyedReconciler();
        Due.answer("nothing shown: recall()", x.recall(), 0);
        x.open(0, 0);
        x.leaf(0, 1);
        Due.answer("nothing shown, a draft: recall()", x.recall(), 0);
        Due.answer("nothing shown: drafted()", x.drafted(), 0);
        Due.answer("nothing shown: close()", x.close(), NONE);
        Due.answer("nothing shown: show()", x.show(), NONE);
        Due.answer("nothing shown: open(0, 1)", x.open(0, 1), 1);
    }

    private static void promise7RecallTakesTheForm() {
        KeyedReconciler x = Trees.shown("00(11(22 33(04)) 15 26(37))");
        x.put(4, 6);
        Due.answer("recall()", x.recall(), 8);
        Due.answer("recalled: open(0, 9)", x.open(0, 9), NONE);
        Due.answer("recalled: close()", x.close(), NONE);
        Due.answer("recalled: show()", x.show(), 0);
        Due.answer("recalled: kept()", x.kept(), 8);
        Due.answer("recalled: gone()", x.gone(), 0);
        Due.answer("recalled: moves()", x.moves(), 0);
        Due.text("recalled: kinds", Trees.kinds(x), "0 11 22 33 4 15 26 37");
        Due.text("recalled: parents", Trees.parents(x), "-4 0 1 1 3 0 0 6");
        Due.text("recalled: ids", Trees.ids(x), "0 1 2 3 4 5 6 7");
        Due.text("recalled: states", Trees.states(x), "0 0 0 0 6 0 0 0");
        Trees.show(x, SIXTEEN);
        Due.answer("sixteen: recall()", x.recall(), 16);
        Due.answer("sixteen recalled: open(0, 0)", x.open(0, 0), FULL);
    }

    private static void promise7RecallReplacesTheDraft() {
        KeyedReconciler x = Trees.shown("00(01 02)");
        x.open(1, 1);
        x.open(1, 2);
        x.open(1, 3);
        x.leaf(1, 4);
        Due.answer("over an open draft: recall()", x.recall(), 3);
        Due.answer("over an open draft: close()", x.close(), NONE);
        Due.answer("twice: recall()", x.recall(), 3);
        x.put(1, 4);
        Due.answer("put after recall: show()", x.show(), 0);
        Due.text("put after recall: states", Trees.states(x), "0 4 0");
        Due.text("over an open draft: kinds", Trees.kinds(x), "0 1 2");
        Due.text("over an open draft: parents", Trees.parents(x), "-4 0 0");
    }
}

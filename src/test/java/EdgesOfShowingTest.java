import java.util.function.ToIntFunction;

/** The boundary cases that promises 8 to 11 name, sentence by sentence. */
public final class EdgesOfShowingTest {
    private static final int NONE = -4;

    public static void main(String[] args) {
        Due.sentence("Promise 8: it has no node afterwards",
                EdgesOfShowingTest::noDraftAfterwards);
        Due.sentence("Promise 8: NONE if it has no node",
                EdgesOfShowingTest::noNodeToShow);
        Due.sentence("Promise 8: NONE if a node is open",
                EdgesOfShowingTest::nodeOpen);
        Due.sentence("Promise 8: Otherwise the number of new nodes.",
                EdgesOfShowingTest::newNodesFromNoneToAll);
        Due.sentence("Promise 9: kept, 0 if there was none.",
                () -> zeroWithoutAShowing("kept()", KeyedReconciler::kept));
        Due.sentence("Promise 9: How many nodes the last showing kept",
                EdgesOfShowingTest::keptFromNoneToAll);
        Due.sentence("Promise 9: of the last showing alone",
                () -> ofTheLastShowing("kept()", KeyedReconciler::kept, 6, 1));
        Due.sentence("Promise 10: gone, 0 if there was none.",
                () -> zeroWithoutAShowing("gone()", KeyedReconciler::gone));
        Due.sentence("Promise 10: How many nodes went with the last showing",
                EdgesOfShowingTest::goneFromNoneToAll);
        Due.sentence("Promise 10: of the last showing alone",
                () -> ofTheLastShowing("gone()", KeyedReconciler::gone, 2, 6));
        Due.sentence("Promise 11: moves, 0 if there was none.",
                () -> zeroWithoutAShowing("moves()", KeyedReconciler::moves));
        Due.sentence("Promise 11: The sum of the moves at all kept nodes",
                EdgesOfShowingTest::movesFromNoneToMost);
        Due.sentence("Promise 11: of the last showing alone",
                () -> ofTheLastShowing("moves()", KeyedReconciler::moves, 2, 0));
        Due.end();
    }

    private static void noDraftAfterwards() {
        for (Start start : Start.where(Start::isClosedDraft)) {
            KeyedReconciler x = start.make();
            x.show();
            Due.answer(start + ", shown: drafted()", x.drafted(), 0);
            Due.answer(start + ", shown: show()", x.show(), NONE);
            Due.answer(start + ", shown: close()", x.close(), NONE);
            Due.answer(start + ", shown: size()", x.size(), start.drafted());
            Due.answer(start + ", shown: open(3, 9)", x.open(3, 9), 1);
            Due.answer(start + ", shown: open(0, 0)", x.open(0, 0), 2);
        }
    }

    private static void noNodeToShow() {
        for (Start start : Start.where(start -> start.drafted() == 0)) {
            Refused.call(start, "show()", KeyedReconciler::show, NONE);
        }
        for (Start start : Start.all()) {
            KeyedReconciler x = start.make();
            x.scrap();
            Due.answer(start + ", scrapped: show()", x.show(), NONE);
        }
    }

    private static void nodeOpen() {
        for (Start start : Start.where(start -> start.open() > 0)) {
            Refused.call(start, "show()", KeyedReconciler::show, NONE);
            KeyedReconciler x = start.make();
            for (int left = start.open(); left > 0; left--) {
                Due.answer(start + ", " + left + " open: show()", x.show(), NONE);
                x.close();
            }
            Due.answer(start + ", none open: is shown", x.show() == NONE ? 0 : 1, 1);
            Due.answer(start + ", none open: size()", x.size(), start.drafted());
        }
    }

    private static void newNodesFromNoneToAll() {
        for (Start start : Start.where(start -> start.isClosedDraft() && start.shown().isEmpty())) {
            Due.answer(start + ": show()", start.make().show(), start.drafted());
        }
        KeyedReconciler x = Trees.shown(Start.SIXTEEN);
        x.recall();
        Due.answer("sixteen kept: show()", x.show(), 0);
        Due.answer("one new among sixteen: show()",
                Trees.show(x, "00(00(00 01 02 03) 01(00 01 02 03) 02(00 01 12) 03)"), 1);
        Due.answer("the root alone kept: show()",
                Trees.show(x, "00(10(00 01 02 03) 11(00 01 02 03) 12(00 01 02) 13)"), 15);
        Due.answer("sixteen new: show()",
                Trees.show(x, "01(10(00 01 02 03) 11(00 01 02 03) 12(00 01 02) 13)"), 16);
    }

    private static void zeroWithoutAShowing(String name, ToIntFunction<KeyedReconciler> question) {
        for (Start start : Start.where(start -> start.shown().isEmpty())) {
            KeyedReconciler x = start.make();
            Due.answer(start + ": " + name, question.applyAsInt(x), 0);
            x.recall();
            Due.answer(start + ", recalled: " + name, question.applyAsInt(x), 0);
            Due.answer(start + ", recalled: show()", x.show(), NONE);
            Due.answer(start + ", refused: " + name, question.applyAsInt(x), 0);
        }
        for (Start start : Start.where(start -> start.shown().isEmpty() && start.isClosedDraft())) {
            KeyedReconciler x = start.make();
            x.show();
            Due.answer(start + ", the first showing: " + name, question.applyAsInt(x), 0);
        }
    }

    private static void keptFromNoneToAll() {
        KeyedReconciler x = Trees.shown(Start.SIXTEEN);
        Due.answer("the first: kept()", x.kept(), 0);
        x.recall();
        x.show();
        Due.answer("sixteen: kept()", x.kept(), 16);
        Trees.show(x, "00(00(00 01 02 03) 01(00 01 02 03) 02(00 01 02))");
        Due.answer("fifteen: kept()", x.kept(), 15);
        Trees.show(x, "00");
        Due.answer("the root: kept()", x.kept(), 1);
        Trees.show(x, "00(00 01)");
        Due.answer("the root and not the new ones: kept()", x.kept(), 1);
        Trees.show(x, "01(00 01)");
        Due.answer("none: kept()", x.kept(), 0);
    }

    private static void goneFromNoneToAll() {
        KeyedReconciler x = Trees.shown(Start.SIXTEEN);
        Due.answer("the first: gone()", x.gone(), 0);
        x.recall();
        x.show();
        Due.answer("none: gone()", x.gone(), 0);
        Trees.show(x, "10");
        Due.answer("sixteen: gone()", x.gone(), 16);
        Trees.show(x, Start.SIXTEEN);
        Due.answer("one: gone()", x.gone(), 1);
        Trees.show(x, "00");
        Due.answer("all but the root: gone()", x.gone(), 15);
        Trees.show(x, "00(01 02)");
        Due.answer("more than before: gone()", x.gone(), 0);
    }

    private static void movesFromNoneToMost() {
        String tenAndFive = "00(00 01 02 03 04 05 06 07 08 09(00 01 02 03 04))";
        moves("the first showing", "", tenAndFive, 0);
        moves("the same", tenAndFive, tenAndFive, 0);
        moves("all in the other order", tenAndFive,
                "00(09(04 03 02 01 00) 08 07 06 05 04 03 02 01 00)", 13);
        moves("at the root alone", tenAndFive,
                "00(09(00 01 02 03 04) 08 07 06 05 04 03 02 01 00)", 9);
        moves("below the root alone", tenAndFive,
                "00(00 01 02 03 04 05 06 07 08 09(04 03 02 01 00))", 4);
        moves("not at a new node", tenAndFive,
                "00(19(04 03 02 01 00) 08 07 06 05 04 03 02 01 00)", 8);
        moves("not at a new root", tenAndFive,
                "10(09(04 03 02 01 00) 08 07 06 05 04 03 02 01 00)", 0);
        moves("in a chain", "00(01(01(01 02) 02) 02)", "00(02 01(02 01(02 01)))", 3);
        moves("at the last place that a node with two children can have", "00(01(05 06))",
                "00(02 03 04 07 08 09 05(00 01 02 03 04) 01(06 05))", 1);
        moves("at the second place, which was the last", "00(02 03 04 01(05 06))", "00(01(06 05))", 1);
        moves("a child far back is no better than those before it", "00(00 01 02 03 04 05)",
                "00(03 04 02 05)", 1);
        moves("no children left", tenAndFive, "00", 0);
        moves("no children before", "00", tenAndFive, 0);
    }

    private static void moves(String what, String before, String after, int due) {
        KeyedReconciler x = new KeyedReconciler();
        Trees.draft(x, before);
        x.show();
        Trees.show(x, after);
        Due.answer(what + ": moves()", x.moves(), due);
    }

    /** The showings of the start with 7 nodes: 6 kept, 2 gone, 2 moves; then one that keeps the root. */
    private static void ofTheLastShowing(
            String name, ToIntFunction<KeyedReconciler> question, int due, int dueNext) {
        for (Start start : Start.where(start -> start.shownNodes() == 7)) {
            KeyedReconciler x = start.make();
            Due.answer(start + ": " + name, question.applyAsInt(x), due);
            x.scrap();
            Due.answer(start + ", scrapped: " + name, question.applyAsInt(x), due);
            x.show();
            Due.answer(start + ", refused: " + name, question.applyAsInt(x), due);
            x.recall();
            Due.answer(start + ", recalled: " + name, question.applyAsInt(x), due);
            x.scrap();
            Trees.show(x, "30(00 01)");
            Due.answer(start + ", shown: " + name, question.applyAsInt(x), dueNext);
        }
    }
}

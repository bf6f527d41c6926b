/** The boundary cases that promises 2 to 7 name, sentence by sentence. */
public final class EdgesOfDraftTest {
    private static final int BAD_ARG = -1;
    private static final int FULL = -2;
    private static final int NONE = -4;
    private static final int[] WRONG_TYPES = {Integer.MIN_VALUE, -1, 4, Integer.MAX_VALUE};
    private static final int[] WRONG_KEYS = {Integer.MIN_VALUE, -1, 10, Integer.MAX_VALUE};

    public static void main(String[] args) {
        Due.sentence("Promise 2: type not 0 to 3 answers BAD_ARG",
                () -> refusesTypes(Refused::open));
        Due.sentence("Promise 2: key not 0 to 9 answers BAD_ARG",
                () -> refusesKeys(Refused::open));
        Due.sentence("Promise 2: FULL",
                () -> refusesWhenFull(Refused::open));
        Due.sentence("Promise 2: no node is open but the draft has nodes answers NONE",
                () -> refusesASecondRoot(Refused::open));
        Due.sentence("Promise 2: the open node opened last has a child with this key answers NONE",
                () -> refusesTheKeyOfAChild(Refused::open));
        Due.sentence("Promise 2: Tested in this order: BAD_ARG before FULL",
                () -> testsArgumentsBeforeFull(Refused::open));
        Due.sentence("Promise 2: Tested in this order: BAD_ARG before NONE",
                () -> testsArgumentsBeforeNone(Refused::open));
        Due.sentence("Promise 2: Tested in this order: FULL before NONE",
                () -> testsFullBeforeNone(Refused::open));
        Due.sentence("Promise 2: Otherwise the number of open nodes.",
                EdgesOfDraftTest::openAnswersTheOpenNodes);
        Due.sentence("Promise 3: NONE if none is open.",
                EdgesOfDraftTest::closeWithNoneOpen);
        Due.sentence("Promise 3: Otherwise the number of open nodes left.",
                EdgesOfDraftTest::closeAnswersTheOpenNodesLeft);
        Due.sentence("Promise 4: Refused as open is: type not 0 to 3",
                () -> refusesTypes(Refused::leaf));
        Due.sentence("Promise 4: Refused as open is: key not 0 to 9",
                () -> refusesKeys(Refused::leaf));
        Due.sentence("Promise 4: Refused as open is: FULL",
                () -> refusesWhenFull(Refused::leaf));
        Due.sentence("Promise 4: Refused as open is: no node is open but the draft has nodes",
                () -> refusesASecondRoot(Refused::leaf));
        Due.sentence("Promise 4: Refused as open is: a child with this key",
                () -> refusesTheKeyOfAChild(Refused::leaf));
        Due.sentence("Promise 4: Refused as open is: BAD_ARG before FULL",
                () -> testsArgumentsBeforeFull(Refused::leaf));
        Due.sentence("Promise 4: Refused as open is: BAD_ARG before NONE",
                () -> testsArgumentsBeforeNone(Refused::leaf));
        Due.sentence("Promise 4: Refused as open is: FULL before NONE",
                () -> testsFullBeforeNone(Refused::leaf));
        Due.sentence("Promise 4: Otherwise the number of open nodes.",
                EdgesOfDraftTest::leafAnswersTheOpenNodes);
        Due.sentence("Promise 5: The draft has no node from now on.",
                EdgesOfDraftTest::scrapLeavesNoNode);
        Due.sentence("Promise 6: The number of nodes of the draft.",
                EdgesOfDraftTest::draftedFromNoneToFull);
        Due.sentence("Promise 7: a draft of the form of the shown tree",
                EdgesOfDraftTest::recallTakesTheForm);
        Due.sentence("Promise 7: no node open",
                EdgesOfDraftTest::recallLeavesNoNodeOpen);
        Due.sentence("Promise 7: without a node if nothing is shown",
                EdgesOfDraftTest::recallOfNothing);
        Due.sentence("Promise 7: Answers its number of nodes.",
                EdgesOfDraftTest::recallAnswersTheNodes);
        Due.end();
    }

    /** open and leaf are refused alike, so each test of a refusal is run for both. */
    private interface Refusal {
        void of(Start start, int type, int key, int due);
    }

    private static void refusesTypes(Refusal refusal) {
        for (Start start : Start.where(start -> start.drafted() < 15)) {
            for (int type : WRONG_TYPES) {
                refusal.of(start, type, 0, BAD_ARG);
                refusal.of(start, type, 7, BAD_ARG);
                refusal.of(start, type, 9, BAD_ARG);
            }
        }
        acceptsAtTheRoot();
    }

    private static void refusesKeys(Refusal refusal) {
        for (Start start : Start.where(start -> start.drafted() < 15)) {
            for (int key : WRONG_KEYS) {
                refusal.of(start, 0, key, BAD_ARG);
                refusal.of(start, 3, key, BAD_ARG);
            }
        }
        acceptsAtTheRoot();
    }

    /** The last arguments that are allowed, in all four corners. */
    private static void acceptsAtTheRoot() {
        for (int type : new int[] {0, 3}) {
            for (int key : new int[] {0, 9}) {
                Due.answer("open(" + type + ", " + key + ")", new KeyedReconciler().open(type, key), 1);
                Due.answer("leaf(" + type + ", " + key + ")", new KeyedReconciler().leaf(type, key), 0);
            }
        }
    }

    private static void refusesWhenFull(Refusal refusal) {
        for (Start start : Start.where(start -> start.drafted() == 16 && start.open() > 0)) {
            refusal.of(start, 0, 8, FULL);
            refusal.of(start, 3, 7, FULL);
        }
        for (Start start : Start.where(start -> start.drafted() == 15 && start.open() > 0)) {
            Due.answer(start + ": the 16th, open(0, 8)", start.make().open(0, 8), start.open() + 1);
            Due.answer(start + ": the 16th, leaf(0, 8)", start.make().leaf(0, 8), start.open());
        }
    }

    private static void refusesASecondRoot(Refusal refusal) {
        for (Start start : Start.where(start -> start.isClosedDraft() && start.drafted() < 16)) {
            refusal.of(start, 0, 0, NONE);
            refusal.of(start, 3, 9, NONE);
            refusal.of(start, 1, 1, NONE);
        }
        KeyedReconciler x = Trees.shown("21");
        x.recall();
        Due.answer("recalled: open(2, 1)", x.open(2, 1), NONE);
        Due.answer("recalled: leaf(0, 0)", x.leaf(0, 0), NONE);
        for (Start start : Start.where(start -> start.drafted() == 0)) {
            Due.answer(start + ": open(0, 0)", start.make().open(0, 0), 1);
            Due.answer(start + ": leaf(0, 0)", start.make().leaf(0, 0), 0);
        }
    }

    private static void refusesTheKeyOfAChild(Refusal refusal) {
        // The last open node has children with the keys 0 and 9, or 5 and 6.
        takesAllKeysBut(refusal, "00(10 29(05 06)", "09");
        takesAllKeysBut(refusal, "00(10 29(05 06", "56");
        takesAllKeysBut(refusal, "00(10 29(05 06(00", "0");
        takesAllKeysBut(refusal, "00(", "");
        takesAllKeysBut(refusal, "00(00 01 02 03 04 05 06 07 08 09", "0123456789");
        takesAllKeysBut(refusal, "00(00 01 02 03 04 05 06 07 08", "012345678");
        takesAllKeysBut(refusal, "00(01(02 03) 04(02 03 05)", "14");
    }

    private static void takesAllKeysBut(Refusal refusal, String draft, String taken) {
        Start start = Start.of("00(11 12)", draft);
        for (int key = 0; key <= 9; key++) {
            for (int type = 0; type <= 3; type++) {
                if (taken.indexOf('0' + key) >= 0) {
                    refusal.of(start, type, key, NONE);
                } else {
                    String call = start + ": (" + type + ", " + key + ")";
                    Due.answer(call + " opened", start.make().open(type, key), start.open() + 1);
                    Due.answer(call + " as leaf", start.make().leaf(type, key), start.open());
                }
            }
        }
    }

    private static void testsArgumentsBeforeFull(Refusal refusal) {
        for (Start start : Start.where(start -> start.drafted() == 16)) {
            for (int type : WRONG_TYPES) {
                refusal.of(start, type, 8, BAD_ARG);
            }
            for (int key : WRONG_KEYS) {
                refusal.of(start, 1, key, BAD_ARG);
            }
        }
    }

    private static void testsArgumentsBeforeNone(Refusal refusal) {
        for (Start start : Start.where(start -> start.isClosedDraft() && start.drafted() < 16)) {
            for (int type : WRONG_TYPES) {
                refusal.of(start, type, 8, BAD_ARG);
            }
            for (int key : WRONG_KEYS) {
                refusal.of(start, 1, key, BAD_ARG);
            }
        }
        for (int type : WRONG_TYPES) {
            refusal.of(Start.of("", "00(10 29"), type, 0, BAD_ARG);
            refusal.of(Start.of("", "00(10 29"), type, 9, BAD_ARG);
        }
    }

    private static void testsFullBeforeNone(Refusal refusal) {
        for (Start start : Start.where(start -> start.drafted() == 16 && start.open() == 0)) {
            refusal.of(start, 0, 0, FULL);
            refusal.of(start, 3, 9, FULL);
        }
        for (Start start : Start.where(start -> start.drafted() == 16 && start.open() == 2)) {
            refusal.of(start, 0, 0, FULL);
            refusal.of(start, 1, 4, FULL);
        }
        refusal.of(Start.of("", "00(00 01 02 03 04 05 06 07 08 09(00 01 02 03 04)"), 2, 9, FULL);
    }

    private static void openAnswersTheOpenNodes() {
        KeyedReconciler x = new KeyedReconciler();
        for (int open = 1; open <= 16; open++) {
            Due.answer("open(0, 0)", x.open(0, 0), open);
        }
        KeyedReconciler y = new KeyedReconciler();
        y.open(0, 0);
        for (int key = 0; key <= 9; key++) {
            Due.answer("below the root: open(0, " + key + ")", y.open(0, key), 2);
            y.close();
        }
    }

    private static void closeWithNoneOpen() {
        for (Start start : Start.where(start -> start.open() == 0)) {
            Refused.call(start, "close()", KeyedReconciler::close, NONE);
        }
        for (Start start : Start.all()) {
            KeyedReconciler recalled = start.make();
            recalled.recall();
            Due.answer(start + ", recalled: close()", recalled.close(), NONE);
            KeyedReconciler scrapped = start.make();
            scrapped.scrap();
            Due.answer(start + ", scrapped: close()", scrapped.close(), NONE);
        }
        KeyedReconciler shown = Trees.shown("00(01)");
        Due.answer("shown: close()", shown.close(), NONE);
    }

    private static void closeAnswersTheOpenNodesLeft() {
        for (Start start : Start.all()) {
            KeyedReconciler x = start.make();
            for (int left = start.open() - 1; left >= 0; left--) {
                Due.answer(start + ": close()", x.close(), left);
            }
            Due.answer(start + ", all closed: close()", x.close(), NONE);
            Due.answer(start + ", all closed: drafted()", x.drafted(), start.drafted());
        }
    }

    private static void leafAnswersTheOpenNodes() {
        KeyedReconciler alone = new KeyedReconciler();
        Due.answer("the root: leaf(0, 0)", alone.leaf(0, 0), 0);
        KeyedReconciler x = new KeyedReconciler();
        for (int open = 1; open <= 8; open++) {
            x.open(0, 0);
            Due.answer("leaf(0, 1)", x.leaf(0, 1), open);
        }
        Due.answer("drafted()", x.drafted(), 16);
        for (int left = 7; left >= 0; left--) {
            Due.answer("a leaf is closed: close()", x.close(), left);
        }
        Due.answer("show()", x.show(), 16);
        Due.text("parents", Trees.parents(x), "-4 0 0 2 2 4 4 6 6 8 8 10 10 12 12 14");
    }

    private static void scrapLeavesNoNode() {
        for (Start start : Start.all()) {
            Start without = new Start(start.shown(), "");
            KeyedReconciler x = start.make();
            x.scrap();
            Due.answer(start + ", scrapped: drafted()", x.drafted(), 0);
            Due.same(start + ", scrapped", Asked.now(x), Asked.now(without.make()));
            for (Asked.Later later : Asked.Later.values()) {
                KeyedReconciler scrapped = start.make();
                scrapped.scrap();
                Due.same(start + ", scrapped, then " + later,
                        later.answers(scrapped), later.answers(without.make()));
            }
            KeyedReconciler twice = start.make();
            twice.scrap();
            twice.scrap();
            Due.answer(start + ", scrapped twice: show()", twice.show(), NONE);
            Due.answer(start + ", scrapped twice: open(3, 9)", twice.open(3, 9), 1);
        }
    }

    private static void draftedFromNoneToFull() {
        for (Start start : Start.all()) {
            Due.answer(start + ": drafted()", start.make().drafted(), start.drafted());
        }
        KeyedReconciler x = new KeyedReconciler();
        for (int nodes = 0; nodes < 16; nodes++) {
            Due.answer("drafted()", x.drafted(), nodes);
            x.open(0, 0);
        }
        Due.answer("drafted()", x.drafted(), 16);
        x.open(0, 1);
        Due.answer("one too many: drafted()", x.drafted(), 16);
        x.close();
        Due.answer("a node closed: drafted()", x.drafted(), 16);
    }

    private static void recallTakesTheForm() {
        for (Start start : Start.where(start -> start.shownNodes() > 0)) {
            KeyedReconciler x = start.make();
            String form = Trees.kinds(x) + " / " + Trees.parents(x) + " / " + Trees.ids(x)
                    + " / " + Trees.states(x);
            x.recall();
            Due.answer(start + ", recalled: show()", x.show(), 0);
            Due.text(start + ", recalled and shown", Trees.kinds(x) + " / " + Trees.parents(x) + " / "
                    + Trees.ids(x) + " / " + Trees.states(x), form);
            Due.answer(start + ", recalled: kept()", x.kept(), start.shownNodes());
            Due.answer(start + ", recalled: gone()", x.gone(), 0);
            Due.answer(start + ", recalled: moves()", x.moves(), 0);
        }
    }

    private static void recallLeavesNoNodeOpen() {
        for (Start start : Start.where(start -> start.shownNodes() > 0)) {
            KeyedReconciler x = start.make();
            x.recall();
            int refusal = start.shownNodes() == 16 ? FULL : NONE;
            Due.answer(start + ", recalled: open(0, 8)", x.open(0, 8), refusal);
            Due.answer(start + ", recalled: leaf(0, 8)", x.leaf(0, 8), refusal);
            Due.answer(start + ", recalled: close()", x.close(), NONE);
            Due.answer(start + ", recalled: show()", x.show(), 0);
        }
    }

    private static void recallOfNothing() {
        for (Start start : Start.where(start -> start.shownNodes() == 0)) {
            KeyedReconciler x = start.make();
            Due.answer(start + ": recall()", x.recall(), 0);
            Due.answer(start + ", recalled: drafted()", x.drafted(), 0);
            for (Asked.Later later : Asked.Later.values()) {
                KeyedReconciler recalled = start.make();
                recalled.recall();
                Due.same(start + ", recalled, then " + later,
                        later.answers(recalled), later.answers(new KeyedReconciler()));
            }
        }
    }

    private static void recallAnswersTheNodes() {
        for (Start start : Start.all()) {
            KeyedReconciler x = start.make();
            Due.answer(start + ": recall()", x.recall(), start.shownNodes());
            Due.answer(start + ", recalled: drafted()", x.drafted(), start.shownNodes());
            Due.answer(start + ", recalled: size()", x.size(), start.shownNodes());
            Due.answer(start + ": recall() again", x.recall(), start.shownNodes());
        }
    }
}

import java.util.function.ToIntFunction;

/** The boundary cases that 'What it is', 'Terms' and promise 1 name, sentence by sentence. */
public final class EdgesOfTermsTest {
    private static final int BAD_ARG = -1;
    private static final int FULL = -2;
    private static final int NONE = -4;
    private static final int LEAST = Integer.MIN_VALUE;
    private static final int GREATEST = Integer.MAX_VALUE;
    private static final int[] EXTREMES =
            {LEAST, LEAST + 1, -5, -4, -3, -2, -1, 0, 1, 3, 4, 9, 10, 15, 16, 17, GREATEST - 1, GREATEST};

    public static void main(String[] args) {
        Due.sentence("An object is used for at most 512 calls",
                EdgesOfTermsTest::the512thCall);
        Due.sentence("each has a TYPE, 0 to 3",
                EdgesOfTermsTest::types);
        Due.sentence("a KEY, 0 to 9",
                EdgesOfTermsTest::keys);
        Due.sentence("a list of children, of which no two have the same key",
                EdgesOfTermsTest::keysOfChildren);
        Due.sentence("A tree has at most 16 nodes.",
                EdgesOfTermsTest::sixteenNodes);
        Due.sentence("The PLACES of a tree's nodes are numbered from 0 on",
                EdgesOfTermsTest::places);
        Due.sentence("There is a SHOWN TREE (or none, at first)",
                EdgesOfTermsTest::noneAtFirst);
        Due.sentence("the last child of the open node opened last, or the root if there is no node yet",
                EdgesOfTermsTest::rootIfThereIsNoNodeYet);
        Due.sentence("Its root is KEPT if there was a shown tree whose root has the same type and key.",
                EdgesOfTermsTest::keptRoot);
        Due.sentence("A child of a kept node is kept if the node of which its parent was kept had a child"
                + " with the same key and the same type.",
                EdgesOfTermsTest::keptChild);
        Due.sentence("All other nodes are NEW.",
                EdgesOfTermsTest::allOthersAreNew);
        Due.sentence("a new one has state 0",
                EdgesOfTermsTest::stateOfANewNode);
        Due.sentence("0 is the first one",
                EdgesOfTermsTest::firstId);
        Due.sentence("as id the next number not given before",
                EdgesOfTermsTest::idsNotGivenBefore);
        Due.sentence("the new nodes in the order of their places",
                EdgesOfTermsTest::newIdsInTheOrderOfPlaces);
        Due.sentence("What was shown before and is not kept is GONE.",
                EdgesOfTermsTest::goneNodes);
        Due.sentence("the least number of its kept children that one must take out",
                EdgesOfTermsTest::leastMoves);
        Due.sentence("No call ever throws.",
                EdgesOfTermsTest::noCallThrows);
        Due.sentence("A refused call answers the code named and changes nothing.",
                EdgesOfTermsTest::refusedCallsChangeNothing);
        Due.sentence("BAD_ARG = -1, FULL = -2, NONE = -4",
                EdgesOfTermsTest::constants);
        Due.sentence("Promise 1: Nothing is shown",
                EdgesOfTermsTest::newObjectShowsNothing);
        Due.sentence("Promise 1: the draft has no node.",
                EdgesOfTermsTest::newObjectHasNoDraft);
        Due.end();
    }

    /** 26 showings of 16 new nodes each are 494 calls; 18 more make the 512. */
    private static void the512thCall() {
        KeyedReconciler x = new KeyedReconciler();
        for (int showing = 0; showing < 26; showing++) {
            x.open(showing % 4, 0);
            for (int key = 0; key <= 8; key++) {
                x.leaf(0, key);
            }
            x.open(0, 9);
            for (int key = 0; key <= 4; key++) {
                x.leaf(0, key);
            }
            x.close();
            x.close();
            Due.answer("show() number " + showing, x.show(), 16);
        }
        int[] dueIds = {400, 401, 402, 403, 404, 405, 406, 407};
        for (int i = 0; i < 8; i++) {
            Due.answer("id(" + i + ")", x.id(i), dueIds[i]);
        }
        Due.answer("id(15)", x.id(15), 415);
        Due.answer("place(399)", x.place(399), NONE);
        Due.answer("place(400)", x.place(400), 0);
        Due.answer("place(416)", x.place(416), NONE);
        Due.answer("put(15, 1)", x.put(15, 1), 0);
        Due.answer("recall()", x.recall(), 16);
        Due.answer("open(0, 0)", x.open(0, 0), FULL);
        Due.answer("show()", x.show(), 0);
        Due.answer("kept()", x.kept(), 16);
        Due.answer("the 512th call: place(415)", x.place(415), 15);
    }

    private static void types() {
        for (int type = 0; type <= 3; type++) {
            KeyedReconciler x = new KeyedReconciler();
            Due.answer("open(" + type + ", 5)", x.open(type, 5), 1);
            Due.answer("leaf(" + type + ", 5)", x.leaf(type, 5), 1);
            x.close();
            x.show();
            Due.text("kinds", Trees.kinds(x), (10 * type + 5) + " " + (10 * type + 5));
        }
        for (int type : new int[] {LEAST, -1, 4, GREATEST}) {
            Refused.open(Start.of("", ""), type, 5, BAD_ARG);
            Refused.leaf(Start.of("", ""), type, 5, BAD_ARG);
        }
    }

    private static void keys() {
        for (int key = 0; key <= 9; key++) {
            KeyedReconciler x = new KeyedReconciler();
            Due.answer("open(2, " + key + ")", x.open(2, key), 1);
            Due.answer("leaf(2, " + key + ")", x.leaf(2, key), 1);
            x.close();
            x.show();
            Due.text("kinds", Trees.kinds(x), (20 + key) + " " + (20 + key));
        }
        for (int key : new int[] {LEAST, -1, 10, GREATEST}) {
            Refused.open(Start.of("", ""), 2, key, BAD_ARG);
            Refused.leaf(Start.of("", ""), 2, key, BAD_ARG);
        }
    }

    private static void keysOfChildren() {
        Start tenChildren = Start.of("", "00(00 11 22 33 04 15 26 37 08 19");
        for (int key = 0; key <= 9; key++) {
            for (int type = 0; type <= 3; type++) {
                Refused.open(tenChildren, type, key, NONE);
                Refused.leaf(tenChildren, type, key, NONE);
            }
        }
        KeyedReconciler x = tenChildren.make();
        x.close();
        Due.answer("ten children: show()", x.show(), 11);
        Due.answer("ten children: children(0)", x.children(0), 10);
        KeyedReconciler y = new KeyedReconciler();
        Trees.draft(y, "00(01(01(01) 02) 02(01 02) 00");
        y.close();
        Due.answer("the same keys below different nodes: show()", y.show(), 9);
    }

    private static void sixteenNodes() {
        for (String fifteen : new String[] {
            "00(00 01 02 03 04 05 06 07 08 09(00 01 02 03", "39(".repeat(15), "00(" + "00(".repeat(13) + "01"}) {
            KeyedReconciler x = new KeyedReconciler();
            Trees.draft(x, fifteen);
            Due.answer(fifteen + ": drafted()", x.drafted(), 15);
            int openNodes = Start.of("", fifteen).open();
            Due.answer(fifteen + ": the 16th, open(1, 8)", x.open(1, 8), openNodes + 1);
            Due.answer(fifteen + ": the 17th, open(1, 7)", x.open(1, 7), FULL);
            Due.answer(fifteen + ": the 17th, leaf(1, 7)", x.leaf(1, 7), FULL);
            Due.answer(fifteen + ": drafted()", x.drafted(), 16);
            KeyedReconciler y = new KeyedReconciler();
            Trees.draft(y, fifteen);
            Due.answer(fifteen + ": the 16th, leaf(1, 8)", y.leaf(1, 8), openNodes);
            Due.answer(fifteen + ": the 17th, leaf(1, 7)", y.leaf(1, 7), FULL);
            for (int left = openNodes - 1; left >= 0; left--) {
                Due.answer(fifteen + ": close()", y.close(), left);
            }
            Due.answer(fifteen + ": show()", y.show(), 16);
            Due.answer(fifteen + ": size()", y.size(), 16);
            Due.answer(fifteen + ": kind(15)", y.kind(15), 18);
            Due.answer(fifteen + ": kind(16)", y.kind(16), NONE);
        }
    }

    private static void places() {
        KeyedReconciler x = Trees.shown("00(11(22(33) 04) 15(26 37(08)) 19)");
        Due.text("kinds in the order of places", Trees.kinds(x), "0 11 22 33 4 15 26 37 8 19");
        Due.text("parents", Trees.parents(x), "-4 0 1 2 1 0 5 5 7 0");
        KeyedReconciler alone = Trees.shown("23");
        Due.answer("a root alone: kind(0)", alone.kind(0), 23);
        Due.answer("a root alone: kind(1)", alone.kind(1), NONE);
    }

    private static void noneAtFirst() {
        KeyedReconciler x = new KeyedReconciler();
        Due.answer("at first: size()", x.size(), 0);
        Due.answer("at first: recall()", x.recall(), 0);
        Due.answer("at first: id(0)", x.id(0), NONE);
        x.leaf(0, 0);
        Due.answer("a draft is not shown: size()", x.size(), 0);
        Due.answer("a draft is not shown: kind(0)", x.kind(0), NONE);
        // Type 0 and key 0 are what an array of nothing holds.
        Due.answer("nothing to keep at first: show()", x.show(), 1);
        Due.answer("nothing to keep at first: kept()", x.kept(), 0);
        Due.answer("shown: size()", x.size(), 1);
    }

    private static void rootIfThereIsNoNodeYet() {
        KeyedReconciler x = new KeyedReconciler();
        Due.answer("the root: open(0, 1)", x.open(0, 1), 1);
        Due.answer("its child: open(0, 2)", x.open(0, 2), 2);
        Due.answer("close()", x.close(), 1);
        Due.answer("its last child: open(0, 3)", x.open(0, 3), 2);
        Due.answer("the last child's child: open(0, 4)", x.open(0, 4), 3);
        Due.answer("close()", x.close(), 2);
        Due.answer("close()", x.close(), 1);
        Due.answer("the last child again: leaf(0, 0)", x.leaf(0, 0), 1);
        Due.answer("close()", x.close(), 0);
        Due.answer("show()", x.show(), 5);
        Due.text("kinds", Trees.kinds(x), "1 2 3 4 0");
        Due.text("parents", Trees.parents(x), "-4 0 0 2 0");
        Due.answer("no node after a showing: open(3, 3)", x.open(3, 3), 1);
    }

    private static void keptRoot() {
        for (int kind = 0; kind < 40; kind++) {
            KeyedReconciler x = Trees.shown("15(01)");
            x.put(0, 6);
            String root = "" + kind / 10 + kind % 10;
            boolean kept = kind == 15;
            Due.answer("15 to " + root + ": show()", Trees.show(x, root), kept ? 0 : 1);
            Due.answer("15 to " + root + ": kept()", x.kept(), kept ? 1 : 0);
            Due.answer("15 to " + root + ": id(0)", x.id(0), kept ? 0 : 2);
            Due.answer("15 to " + root + ": state(0)", x.state(0), kept ? 6 : 0);
        }
    }

    private static void keptChild() {
        for (int kind = 0; kind < 40; kind++) {
            KeyedReconciler x = Trees.shown("00(15 26)");
            x.put(1, 6);
            String after = "00(" + kind / 10 + kind % 10 + ")";
            int from = kind == 15 ? 1 : kind == 26 ? 2 : NONE;
            Due.answer("to " + after + ": show()", Trees.show(x, after), from == NONE ? 1 : 0);
            Due.answer("to " + after + ": id(1)", x.id(1), from == NONE ? 3 : from);
            Due.answer("to " + after + ": state(1)", x.state(1), from == 1 ? 6 : 0);
        }
    }

    private static void allOthersAreNew() {
        showsAfter("00(01(05))", "00(02(05))", 2, "0 3 4");
        showsAfter("00(01(05))", "00(11(05))", 2, "0 3 4");
        showsAfter("00(01(05))", "10(01(05))", 3, "3 4 5");
        showsAfter("00(01(05))", "01(05)", 2, "3 4");
        showsAfter("00(01(05) 02)", "00(01 02(05))", 1, "0 1 3 4");
        showsAfter("00(01(05))", "00(01 05)", 1, "0 1 3");
        showsAfter("00(01 05)", "00(01(05))", 1, "0 1 3");
        showsAfter("00", "00(00)", 1, "0 1");
        showsAfter("", "00(01)", 2, "0 1");
    }

    private static void showsAfter(String before, String after, int dueNew, String dueIds) {
        KeyedReconciler x = new KeyedReconciler();
        Trees.draft(x, before);
        x.show();
        Due.answer(before + " to " + after + ": show()", Trees.show(x, after), dueNew);
        Due.text(before + " to " + after + ": ids", Trees.ids(x), dueIds);
    }

    private static void stateOfANewNode() {
        KeyedReconciler x = Trees.shown("00(01(02) 03)");
        for (int i = 0; i < 4; i++) {
            Due.answer("first: state(" + i + ")", x.state(i), 0);
            x.put(i, 100 + i);
        }
        Trees.show(x, "00(11(02) 04 03)");
        Due.text("new beside kept: states", Trees.states(x), "100 0 0 0 103");
        Trees.show(x, "10(11(02) 04 03)");
        Due.text("all new: states", Trees.states(x), "0 0 0 0 0");
        Trees.show(x, "10");
        Trees.show(x, "10(11(02))");
        Due.text("new at places that were there before: states", Trees.states(x), "0 0 0");
    }

    private static void firstId() {
        KeyedReconciler x = new KeyedReconciler();
        x.leaf(3, 9);
        x.show();
        Due.answer("one: id(0)", x.id(0), 0);
        Due.answer("one: place(0)", x.place(0), 0);
        KeyedReconciler y = Trees.shown("39");
        Due.answer("of another object: id(0)", y.id(0), 0);
    }

    private static void idsNotGivenBefore() {
        KeyedReconciler x = Trees.shown("00(01)");
        Trees.show(x, "00");
        Trees.show(x, "00(01)");
        Due.text("a gone node's id is not given again: ids", Trees.ids(x), "0 2");
        Trees.draft(x, "00(02 03)");
        x.scrap();
        Trees.draft(x, "00(02 03");
        Due.answer("refused: show()", x.show(), NONE);
        x.recall();
        Due.answer("recalled: show()", x.show(), 0);
        Trees.show(x, "00(04)");
        Due.text("scrapped, refused and kept ones took none: ids", Trees.ids(x), "0 3");
        Trees.show(x, "10");
        Due.text("all gone: ids", Trees.ids(x), "4");
    }

    private static void newIdsInTheOrderOfPlaces() {
        KeyedReconciler x = Trees.shown("00(01(02 03) 04)");
        Due.text("first: ids", Trees.ids(x), "0 1 2 3 4");
        Trees.show(x, "00(05(02) 04(06) 01(07 03 08) 09)");
        Due.text("new between kept: ids", Trees.ids(x), "0 5 6 4 7 1 8 3 9 10");
    }

    private static void goneNodes() {
        KeyedReconciler x = Trees.shown("00(01(02(03)) 04)");
        Trees.show(x, "00(11(02(03)) 04)");
        Due.answer("a part under a new node: gone()", x.gone(), 3);
        for (int id = 1; id <= 3; id++) {
            Due.answer("gone: place(" + id + ")", x.place(id), NONE);
        }
        Due.answer("not gone: place(4)", x.place(4), 4);
        Trees.show(x, "00(11(02(03)) 04)");
        Due.answer("the same again: gone()", x.gone(), 0);
        Trees.show(x, "00(11(02(03) 05) 06 04)");
        Due.answer("new ones alone: gone()", x.gone(), 0);
        Trees.show(x, "01");
        Due.answer("all: gone()", x.gone(), 7);
        Due.answer("all: place(0)", x.place(0), NONE);
    }

    private static void leastMoves() {
        moves("00(01)", "00(01)", 0);
        moves("00(01 02)", "00(02 01)", 1);
        moves("00(01 02)", "00(02)", 0);
        // One that goes far is one move, not one for each that it passes.
        moves("00(00 01 02 03 04 05 06 07 08 09)", "00(09 00 01 02 03 04 05 06 07 08)", 1);
        moves("00(00 01 02 03 04 05 06 07 08 09)", "00(01 02 03 04 05 06 07 08 09 00)", 1);
        moves("00(00 01 02 03 04 05 06 07 08 09)", "00(09 08 07 06 05 04 03 02 01 00)", 9);
        // The others need not have stood side by side.
        moves("00(00 01 02 03 04 05)", "00(05 00 04 02 03 01)", 3);
        // Children that are new or gone are in no order.
        moves("00(01 02 03)", "00(13 12 01)", 0);
        moves("00(01 02 03)", "00(09 03 08 01 07)", 1);
    }

    private static void moves(String before, String after, int due) {
        KeyedReconciler x = Trees.shown(before);
        Trees.show(x, after);
        Due.answer(before + " to " + after + ": moves()", x.moves(), due);
    }

    private static void noCallThrows() {
        for (Start start : Start.all()) {
            for (int a : EXTREMES) {
                for (int b : EXTREMES) {
                    goesThrough(start, "open(" + a + ", " + b + ")", x -> x.open(a, b));
                    goesThrough(start, "leaf(" + a + ", " + b + ")", x -> x.leaf(a, b));
                    goesThrough(start, "put(" + a + ", " + b + ")", x -> x.put(a, b));
                }
                goesThrough(start, "id(" + a + ")", x -> x.id(a));
                goesThrough(start, "kind(" + a + ")", x -> x.kind(a));
                goesThrough(start, "state(" + a + ")", x -> x.state(a));
                goesThrough(start, "place(" + a + ")", x -> x.place(a));
                goesThrough(start, "parent(" + a + ")", x -> x.parent(a));
                goesThrough(start, "children(" + a + ")", x -> x.children(a));
            }
            goesThrough(start, "close()", KeyedReconciler::close);
            goesThrough(start, "recall()", KeyedReconciler::recall);
            goesThrough(start, "show()", KeyedReconciler::show);
            goesThrough(start, "digest()", KeyedReconciler::digest);
            goesThrough(start, "scrap()", x -> {
                x.scrap();
                return 0;
            });
        }
    }

    /** The call, and then what can be done with the object that it left. */
    private static void goesThrough(Start start, String name, ToIntFunction<KeyedReconciler> call) {
        String end = "ended";
        try {
            KeyedReconciler x = start.make();
            call.applyAsInt(x);
            x.show();
            x.recall();
            x.close();
            x.show();
            x.digest();
        } catch (RuntimeException thrown) {
            end = "threw " + thrown;
        }
        Due.text(start + ": " + name, end, "ended");
    }

    /** Runs of refused calls, where a single one is looked at in the test of its own sentence. */
    private static void refusedCallsChangeNothing() {
        for (Start start : Start.all()) {
            KeyedReconciler x = start.make();
            var before = Asked.now(x);
            callAllThatIsRefused(start, x);
            Due.same(start + ", asked after refused calls", Asked.now(x), before);
            for (Asked.Later later : Asked.Later.values()) {
                KeyedReconciler refused = start.make();
                callAllThatIsRefused(start, refused);
                callAllThatIsRefused(start, refused);
                Due.same(start + ", refused calls, then " + later,
                        later.answers(refused), later.answers(start.make()));
            }
        }
    }

    private static void callAllThatIsRefused(Start start, KeyedReconciler x) {
        Due.answer(start + ": open(4, 0)", x.open(4, 0), BAD_ARG);
        Due.answer(start + ": open(0, -1)", x.open(0, -1), BAD_ARG);
        Due.answer(start + ": leaf(-1, 9)", x.leaf(-1, 9), BAD_ARG);
        Due.answer(start + ": leaf(3, 10)", x.leaf(3, 10), BAD_ARG);
        if (start.drafted() == 16) {
            Due.answer(start + ": open(1, 8)", x.open(1, 8), FULL);
            Due.answer(start + ": leaf(1, 8)", x.leaf(1, 8), FULL);
        } else if (start.isClosedDraft()) {
            Due.answer(start + ": open(1, 8)", x.open(1, 8), NONE);
            Due.answer(start + ": leaf(1, 8)", x.leaf(1, 8), NONE);
        }
        if (start.open() == 0) {
            Due.answer(start + ": close()", x.close(), NONE);
        }
        if (!start.isClosedDraft()) {
            Due.answer(start + ": show()", x.show(), NONE);
        }
        if (start.shownNodes() > 0) {
            Due.answer(start + ": put(0, -1)", x.put(0, -1), BAD_ARG);
            Due.answer(start + ": parent(0)", x.parent(0), NONE);
        }
        for (int i : new int[] {-1, start.shownNodes()}) {
            Due.answer(start + ": id(" + i + ")", x.id(i), NONE);
            Due.answer(start + ": kind(" + i + ")", x.kind(i), NONE);
            Due.answer(start + ": state(" + i + ")", x.state(i), NONE);
            Due.answer(start + ": put(" + i + ", 4)", x.put(i, 4), NONE);
            Due.answer(start + ": put(" + i + ", -4)", x.put(i, -4), NONE);
            Due.answer(start + ": parent(" + i + ")", x.parent(i), NONE);
            Due.answer(start + ": children(" + i + ")", x.children(i), NONE);
        }
        Due.answer(start + ": place(-1)", x.place(-1), NONE);
        Due.answer(start + ": place(48)", x.place(48), NONE);
    }

    private static void constants() {
        Due.answer("BAD_ARG", KeyedReconciler.BAD_ARG, -1);
        Due.answer("FULL", KeyedReconciler.FULL, -2);
        Due.answer("NONE", KeyedReconciler.NONE, -4);
    }

    private static void newObjectShowsNothing() {
        KeyedReconciler x = new KeyedReconciler();
        Due.answer("size()", x.size(), 0);
        Due.answer("kept()", x.kept(), 0);
        Due.answer("gone()", x.gone(), 0);
        Due.answer("moves()", x.moves(), 0);
        Due.answer("digest()", x.digest(), 0);
        Due.answer("recall()", x.recall(), 0);
        for (int i = -1; i <= 16; i++) {
            Due.answer("id(" + i + ")", x.id(i), NONE);
            Due.answer("kind(" + i + ")", x.kind(i), NONE);
            Due.answer("state(" + i + ")", x.state(i), NONE);
            Due.answer("put(" + i + ", 1)", x.put(i, 1), NONE);
            Due.answer("place(" + i + ")", x.place(i), NONE);
            Due.answer("parent(" + i + ")", x.parent(i), NONE);
            Due.answer("children(" + i + ")", x.children(i), NONE);
        }
    }

    private static void newObjectHasNoDraft() {
        Due.answer("drafted()", new KeyedReconciler().drafted(), 0);
        Due.answer("close()", new KeyedReconciler().close(), NONE);
        Due.answer("show()", new KeyedReconciler().show(), NONE);
        Due.answer("open(0, 0)", new KeyedReconciler().open(0, 0), 1);
        Due.answer("leaf(0, 0)", new KeyedReconciler().leaf(0, 0), 0);
    }
}

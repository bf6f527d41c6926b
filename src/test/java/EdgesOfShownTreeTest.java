import java.math.BigInteger;

/** The boundary cases that promises 12 to 20 name, sentence by sentence. */
public final class EdgesOfShownTreeTest {
    private static final int BAD_ARG = -1;
    private static final int NONE = -4;
    private static final int LEAST = Integer.MIN_VALUE;
    private static final int GREATEST = Integer.MAX_VALUE;

    public static void main(String[] args) {
        Due.sentence("Promise 12: 0 if nothing is shown.",
                EdgesOfShownTreeTest::sizeOfNothing);
        Due.sentence("Promise 12: The number of nodes of the shown tree",
                EdgesOfShownTreeTest::sizeFromOneToSixteen);
        Due.sentence("Promise 13: id, NONE if there is none.",
                () -> noneOutsideOfTheTree("id", KeyedReconciler::id));
        Due.sentence("Promise 13: The id of the node at place i",
                () -> atTheFirstAndLastPlace("id", KeyedReconciler::id, "0 0 7 8 3 0 15"));
        Due.sentence("Promise 14: kind, NONE if there is no place i.",
                () -> noneOutsideOfTheTree("kind", KeyedReconciler::kind));
        Due.sentence("Promise 14: 10 times its type plus its key",
                EdgesOfShownTreeTest::kindsFromLeastToGreatest);
        Due.sentence("Promise 15: state, NONE if there is no place i.",
                () -> noneOutsideOfTheTree("state", KeyedReconciler::state));
        Due.sentence("Promise 15: Its state",
                () -> atTheFirstAndLastPlace("state", KeyedReconciler::state, "79 70 72 0 79 70 79"));
        Due.sentence("Promise 16: NONE if there is no place i",
                () -> noneOutsideOfTheTree("put to 5:", (x, i) -> x.put(i, 5)));
        Due.sentence("Promise 16: BAD_ARG if s is negative.",
                EdgesOfShownTreeTest::negativeStates);
        Due.sentence("Promise 16: Tested in this order.",
                EdgesOfShownTreeTest::placeBeforeState);
        Due.sentence("Promise 16: Otherwise the state before.",
                EdgesOfShownTreeTest::stateBefore);
        Due.sentence("Promise 17: NONE if there is none.",
                EdgesOfShownTreeTest::idsNotInTheTree);
        Due.sentence("Promise 17: The place of the node with this id",
                EdgesOfShownTreeTest::placesOfIds);
        Due.sentence("Promise 18: NONE if there is no place i",
                () -> noneOutsideOfTheTree("parent", KeyedReconciler::parent));
        Due.sentence("Promise 18: NONE if it is 0.",
                EdgesOfShownTreeTest::parentOfTheRoot);
        Due.sentence("Promise 18: The place of the parent",
                EdgesOfShownTreeTest::parentsFromFirstToLast);
        Due.sentence("Promise 19: children, NONE if there is no place i.",
                () -> noneOutsideOfTheTree("children", KeyedReconciler::children));
        Due.sentence("Promise 19: How many children the node at place i has",
                EdgesOfShownTreeTest::childrenFromNoneToTen);
        Due.sentence("Promise 20: The sum over the places i of the shown tree",
                EdgesOfShownTreeTest::digestOfNoneToSixteen);
        Due.sentence("Promise 20: wrapping",
                EdgesOfShownTreeTest::digestWraps);
        Due.end();
    }

    private interface Question {
        int of(KeyedReconciler x, int i);
    }

    private static void sizeOfNothing() {
        for (Start start : Start.where(start -> start.shown().isEmpty())) {
            KeyedReconciler x = start.make();
            Due.answer(start + ": size()", x.size(), 0);
            x.recall();
            x.show();
            Due.answer(start + ", recalled, refused: size()", x.size(), 0);
        }
    }

    private static void sizeFromOneToSixteen() {
        for (Start start : Start.all()) {
            Due.answer(start + ": size()", start.make().size(), start.shownNodes());
        }
        KeyedReconciler x = new KeyedReconciler();
        for (int nodes = 1; nodes <= 16; nodes++) {
            showChain(x, nodes);
            Due.answer("a chain of " + nodes + ": size()", x.size(), nodes);
        }
        Trees.show(x, "00");
        Due.answer("one after sixteen: size()", x.size(), 1);
    }

    private static void showChain(KeyedReconciler x, int nodes) {
        for (int i = 0; i < nodes; i++) {
            x.open(0, 0);
        }
        for (int i = 0; i < nodes; i++) {
            x.close();
        }
        x.show();
    }

    /** One place too many on either side, what looks like a refusal, and the ends of int. */
    private static void noneOutsideOfTheTree(String name, Question question) {
        for (Start start : Start.all()) {
            int size = start.shownNodes();
            for (int i : new int[] {LEAST, -4, -1, size, size + 1, 15, 16, 17, 31, 32, GREATEST}) {
                if (i < 0 || i >= size) {
                    Refused.call(start, name + " " + i, x -> question.of(x, i), NONE);
                }
            }
        }
        KeyedReconciler smaller = Trees.shown(Start.SIXTEEN);
        Trees.show(smaller, "00(00)");
        for (int i = 2; i <= 16; i++) {
            Due.answer("a smaller tree than before: " + name + " " + i, question.of(smaller, i), NONE);
        }
    }

    /** The one node; the places 0, 2, 4 and 6 of seven; the first and the last of sixteen. */
    private static void atTheFirstAndLastPlace(String name, Question question, String due) {
        for (String draft : new String[] {"", "00(01 02", "00(01 02)"}) {
            KeyedReconciler one = startOf(1, draft);
            KeyedReconciler seven = startOf(7, draft);
            KeyedReconciler sixteen = startOf(16, draft);
            String got = question.of(one, 0) + " " + question.of(seven, 0) + " " + question.of(seven, 2)
                    + " " + question.of(seven, 4) + " " + question.of(seven, 6)
                    + " " + question.of(sixteen, 0) + " " + question.of(sixteen, 15);
            Due.text(name + " with the draft '" + draft + "'", got, due);
        }
    }

    private static KeyedReconciler startOf(int shownNodes, String draft) {
        Start start = Start.where(wanted -> wanted.shownNodes() == shownNodes).get(0);
        return new Start(start.shown(), draft).make();
    }

    private static void kindsFromLeastToGreatest() {
        for (int type = 0; type <= 3; type++) {
            for (int key = 0; key <= 9; key++) {
                KeyedReconciler x = Trees.shown("00(" + type + key + ")");
                Due.answer("type " + type + ", key " + key + ": kind(1)", x.kind(1), 10 * type + key);
            }
        }
        KeyedReconciler sixteen = Trees.shown(Start.SIXTEEN);
        Due.text("sixteen: kinds", Trees.kinds(sixteen), "0 0 0 1 2 3 1 0 1 2 3 2 0 1 2 3");
    }

    private static void negativeStates() {
        for (Start start : Start.where(start -> start.shownNodes() > 0)) {
            for (int s : new int[] {-1, -2, -4, LEAST}) {
                Refused.put(start, 0, s, BAD_ARG);
                Refused.put(start, start.shownNodes() - 1, s, BAD_ARG);
            }
        }
        for (int s : new int[] {0, 1, GREATEST - 1, GREATEST}) {
            KeyedReconciler x = Trees.shown("00(01)");
            Due.answer("put(0, " + s + ")", x.put(0, s), 0);
            Due.answer("put(1, " + s + ")", x.put(1, s), 0);
            Due.text("put " + s + ": states", Trees.states(x), s + " " + s);
        }
    }

    private static void placeBeforeState() {
        for (Start start : Start.all()) {
            for (int s : new int[] {-1, LEAST}) {
                Refused.put(start, -1, s, NONE);
                Refused.put(start, start.shownNodes(), s, NONE);
                Refused.put(start, LEAST, s, NONE);
                Refused.put(start, GREATEST, s, NONE);
            }
        }
    }

    private static void stateBefore() {
        KeyedReconciler x = Trees.shown(Start.SIXTEEN);
        for (int i : new int[] {0, 8, 15}) {
            Due.answer("put(" + i + ", greatest)", x.put(i, GREATEST), 0);
            Due.answer("put(" + i + ", greatest) again", x.put(i, GREATEST), GREATEST);
            Due.answer("put(" + i + ", 0)", x.put(i, 0), GREATEST);
            Due.answer("put(" + i + ", 3)", x.put(i, 3), 0);
        }
        Due.text("the others have theirs still: states", Trees.states(x),
                "3 0 0 0 0 0 0 0 3 0 0 0 0 0 0 3");
    }

    private static void idsNotInTheTree() {
        for (Start start : Start.all()) {
            // In the start with 7 nodes the ids 2 and 4 are gone, 8 is the last one given.
            int[] missing = start.shownNodes() == 7
                    ? new int[] {LEAST, -4, -1, 2, 4, 9, GREATEST}
                    : new int[] {LEAST, -4, -1, start.shownNodes(), start.shownNodes() + 1, GREATEST};
            for (int id : missing) {
                Refused.call(start, "place(" + id + ")", x -> x.place(id), NONE);
            }
        }
        KeyedReconciler smaller = Trees.shown(Start.SIXTEEN);
        Trees.show(smaller, "00");
        for (int id = 1; id <= 16; id++) {
            Due.answer("gone: place(" + id + ")", smaller.place(id), NONE);
        }
        Due.answer("a type and key are no id: place(39)", Trees.shown("39").place(39), NONE);
    }

    private static void placesOfIds() {
        KeyedReconciler sixteen = startOf(16, "");
        for (int id = 0; id < 16; id++) {
            Due.answer("sixteen: place(" + id + ")", sixteen.place(id), id);
        }
        KeyedReconciler seven = startOf(7, "00(01");
        int[] dueIds = {0, 6, 7, 5, 8, 1, 3};
        for (int i = 0; i < 7; i++) {
            Due.answer("seven: id(" + i + ")", seven.id(i), dueIds[i]);
            Due.answer("seven: place(" + dueIds[i] + ")", seven.place(dueIds[i]), i);
        }
    }

    private static void parentOfTheRoot() {
        for (Start start : Start.where(start -> start.shownNodes() > 0)) {
            Refused.call(start, "parent(0)", x -> x.parent(0), NONE);
        }
    }

    private static void parentsFromFirstToLast() {
        Due.text("sixteen: parents", Trees.parents(startOf(16, "")),
                "-4 0 1 1 1 1 0 6 6 6 6 0 11 11 11 0");
        KeyedReconciler chain = new KeyedReconciler();
        showChain(chain, 16);
        for (int i = 1; i < 16; i++) {
            Due.answer("a chain: parent(" + i + ")", chain.parent(i), i - 1);
        }
        KeyedReconciler wide = Trees.shown("00(00 01 02 03 04 05 06 07 08 09)");
        for (int i = 1; i <= 10; i++) {
            Due.answer("ten children: parent(" + i + ")", wide.parent(i), 0);
        }
    }

    private static void childrenFromNoneToTen() {
        KeyedReconciler x = Trees.shown("00");
        Due.answer("alone: children(0)", x.children(0), 0);
        StringBuilder children = new StringBuilder();
        for (int count = 1; count <= 10; count++) {
            children.append(" 0").append(count - 1);
            Trees.show(x, "00(" + children + ")");
            Due.answer(count + " children: children(0)", x.children(0), count);
            Due.answer("the last of " + count + ": children(" + count + ")", x.children(count), 0);
        }
        Due.text("children alone, not theirs: children", Trees.children(startOf(16, "")),
                "4 4 0 0 0 0 4 0 0 0 0 3 0 0 0 0");
        KeyedReconciler chain = new KeyedReconciler();
        showChain(chain, 16);
        Due.answer("a chain: children(0)", chain.children(0), 1);
        Due.answer("a chain: children(14)", chain.children(14), 1);
        Due.answer("a chain: children(15)", chain.children(15), 0);
    }

    private static void digestOfNoneToSixteen() {
        for (Start start : Start.all()) {
            KeyedReconciler x = start.make();
            Due.answer(start + ": digest()", x.digest(), exactDigest(x).intValueExact());
        }
        Due.answer("nothing shown: digest()", new KeyedReconciler().digest(), 0);
        Due.answer("one: digest()", Trees.shown("00").digest(), 1);
        // The squares from 1 to 16.
        Due.answer("sixteen: digest()", Trees.shown(Start.SIXTEEN).digest(), 1496);
        KeyedReconciler x = Trees.shown(Start.SIXTEEN);
        Trees.show(x, "00");
        Due.answer("one after sixteen: digest()", x.digest(), 1);
    }

    private static BigInteger exactDigest(KeyedReconciler x) {
        BigInteger sum = BigInteger.ZERO;
        for (int i = 0; i < x.size(); i++) {
            sum = sum.add(BigInteger.valueOf(i + 1L)
                    .multiply(BigInteger.valueOf(x.id(i) + 1L))
                    .multiply(BigInteger.valueOf(x.state(i) + 1L)));
        }
        return sum;
    }

    private static void digestWraps() {
        KeyedReconciler one = Trees.shown("00");
        one.put(0, GREATEST - 1);
        Due.answer("the greatest that does not wrap: digest()", one.digest(), GREATEST);
        one.put(0, GREATEST);
        Due.answer("state + 1 wraps: digest()", one.digest(), LEAST);
        KeyedReconciler two = Trees.shown("00(01)");
        two.put(0, GREATEST - 5);
        Due.answer("the sum is the greatest: digest()", two.digest(), GREATEST);
        two.put(0, GREATEST - 4);
        Due.answer("the sum wraps: digest()", two.digest(), LEAST);
        two.put(0, 0);
        two.put(1, 1 << 29);
        Due.answer("the product wraps: digest()", two.digest(), LEAST + 5);
        two.put(1, (1 << 30) - 1);
        Due.answer("the product wraps to 0: digest()", two.digest(), 1);
        KeyedReconciler sixteen = Trees.shown(Start.SIXTEEN);
        for (int i = 0; i < 16; i++) {
            sixteen.put(i, GREATEST - i);
        }
        Due.answer("many wraps: digest()", sixteen.digest(), exactDigest(sixteen).intValue());
        for (int i = 0; i < 16; i++) {
            sixteen.put(i, GREATEST);
        }
        Due.answer("all wraps: digest()", sixteen.digest(), exactDigest(sixteen).intValue());
        Due.answer("eight odd squares times the least: digest()", sixteen.digest(), 0);
    }
}

/** Promises 12 to 20: what is told of the shown tree, and put. */
public final class ShownTreeTest {
    private static final int BAD_ARG = -1;
    private static final int NONE = -4;
    private static final int[] NO_PLACES =
            {-1, 8, 15, 16, 17, -4, Integer.MIN_VALUE, Integer.MAX_VALUE};

    public static void main(String[] args) {
        promise12Size();
        promises13To19WithoutAPlace();
        promise13Id();
        promise14Kind();
        promise15State();
        promise16Put();
        promise16PutIsRefused();
        promise17Place();
        promise18Parent();
        promise19Children();
        promise20Digest();
        promise20DigestWraps();
        aDraftDoesNotShow();
        Due.end();
    }

    private static KeyedReconciler eightNodes() {
        return Trees.shown("30(11(22 33(04)) 15 26(39))");
    }

    private static void promise12Size() {
        KeyedReconciler x = eightNodes();
        Due.answer("eight: size()", x.size(), 8);
        Trees.show(x, "30");
        Due.answer("one: size()", x.size(), 1);
        Trees.show(x, "00(00(00 01 02 03) 01(00 01 02 03) 02(00 01 02) 03)");
        Due.answer("sixteen: size()", x.size(), 16);
        Due.answer("sixteen: kind(15)", x.kind(15), 3);
        Due.answer("sixteen: kind(16)", x.kind(16), NONE);
    }

    private static void promises13To19WithoutAPlace() {
        KeyedReconciler x = eightNodes();
        String before = Trees.all(x);
        for (int i : NO_PLACES) {
            Due.answer("id(" + i + ")", x.id(i), NONE);
            Due.answer("kind(" + i + ")", x.kind(i), NONE);
            Due.answer("state(" + i + ")", x.state(i), NONE);
            Due.answer("put(" + i + ", 1)", x.put(i, 1), NONE);
            Due.answer("parent(" + i + ")", x.parent(i), NONE);
            Due.answer("children(" + i + ")", x.children(i), NONE);
        }
        Due.text("asked for places that are none", Trees.all(x), before);
        Trees.show(x, "30(11)");
        Due.answer("a smaller tree: id(2)", x.id(2), NONE);
        Due.answer("a smaller tree: kind(2)", x.kind(2), NONE);
        Due.answer("a smaller tree: state(2)", x.state(2), NONE);
        Due.answer("a smaller tree: put(2, 1)", x.put(2, 1), NONE);
        Due.answer("a smaller tree: parent(2)", x.parent(2), NONE);
        Due.answer("a smaller tree: children(2)", x.children(2), NONE);
        Due.answer("a smaller tree: children(1)", x.children(1), 0);
    }

    private static void promise13Id() {
        KeyedReconciler x = eightNodes();
        Due.text("ids", Trees.ids(x), "0 1 2 3 4 5 6 7");
        Trees.show(x, "30(26 15 11)");
        Due.text("ids in another order", Trees.ids(x), "0 6 5 1");
    }

    private static void promise14Kind() {
        KeyedReconciler x = eightNodes();
        Due.text("kinds", Trees.kinds(x), "30 11 22 33 4 15 26 39");
    }

    private static void promise15State() {
        KeyedReconciler x = eightNodes();
        Due.text("new: states", Trees.states(x), "0 0 0 0 0 0 0 0");
        x.put(0, 4);
        x.put(7, Integer.MAX_VALUE);
        Due.text("put: states", Trees.states(x), "4 0 0 0 0 0 0 2147483647");
    }

    private static void promise16Put() {
        KeyedReconciler x = eightNodes();
        Due.answer("put(3, 5)", x.put(3, 5), 0);
        Due.answer("put(3, 9)", x.put(3, 9), 5);
        Due.answer("put(3, 0)", x.put(3, 0), 9);
        Due.answer("put(3, greatest)", x.put(3, Integer.MAX_VALUE), 0);
        Due.answer("put(3, 1)", x.put(3, 1), Integer.MAX_VALUE);
        Due.text("states", Trees.states(x), "0 0 0 1 0 0 0 0");
        Due.text("ids", Trees.ids(x), "0 1 2 3 4 5 6 7");
    }

    private static void promise16PutIsRefused() {
        KeyedReconciler x = eightNodes();
        x.put(2, 6);
        Due.answer("put(2, -1)", x.put(2, -1), BAD_ARG);
        Due.answer("put(2, least)", x.put(2, Integer.MIN_VALUE), BAD_ARG);
        Due.answer("no place and negative: put(8, -1)", x.put(8, -1), NONE);
        Due.answer("no place and negative: put(-1, -1)", x.put(-1, -1), NONE);
        Due.text("refused: states", Trees.states(x), "0 0 6 0 0 0 0 0");
    }

    private static void promise17Place() {
        KeyedReconciler x = eightNodes();
        Due.answer("place(0)", x.place(0), 0);
        Due.answer("place(7)", x.place(7), 7);
        Due.answer("never given: place(8)", x.place(8), NONE);
        Due.answer("place(-1)", x.place(-1), NONE);
        Due.answer("place(-4)", x.place(-4), NONE);
        Due.answer("place(least)", x.place(Integer.MIN_VALUE), NONE);
        Due.answer("place(greatest)", x.place(Integer.MAX_VALUE), NONE);
        Trees.show(x, "30(26 15 07)");
        Due.answer("moved: place(6)", x.place(6), 1);
        Due.answer("moved: place(5)", x.place(5), 2);
        Due.answer("new: place(8)", x.place(8), 3);
        Due.answer("gone: place(1)", x.place(1), NONE);
        Due.answer("gone: place(3)", x.place(3), NONE);
        Due.answer("gone: place(7)", x.place(7), NONE);
    }

    private static void promise18Parent() {
        KeyedReconciler x = eightNodes();
        Due.text("parents", Trees.parents(x), "-4 0 1 1 3 0 0 6");
        Trees.show(x, "30(26(39) 11(33(04)))");
        Due.text("another form: parents", Trees.parents(x), "-4 0 1 0 3 4");
    }

    private static void promise19Children() {
        KeyedReconciler x = eightNodes();
        Due.text("children", Trees.children(x), "3 2 0 1 0 0 1 0");
        Trees.show(x, "30(26(39) 11(33(04)))");
        Due.text("another form: children", Trees.children(x), "2 1 0 1 1 0");
        Trees.show(x, "30(00 01 02 03 04 05 06 07 08 09)");
        Due.answer("a child for each key: children(0)", x.children(0), 10);
    }

    private static void promise20Digest() {
        KeyedReconciler x = Trees.shown("00");
        Due.answer("one: digest()", x.digest(), 1);
        x.put(0, 4);
        Due.answer("one with a state: digest()", x.digest(), 5);
        Trees.show(x, "00(01 02)");
        Due.answer("three: digest()", x.digest(), 5 + 2 * 2 + 3 * 3);
        x.put(2, 9);
        Due.answer("three with states: digest()", x.digest(), 5 + 2 * 2 + 3 * 3 * 10);
        Trees.show(x, "00(02 01)");
        Due.answer("another order: digest()", x.digest(), 5 + 2 * 3 * 10 + 3 * 2);
    }

    private static void promise20DigestWraps() {
        KeyedReconciler x = Trees.shown("00(01 02)");
        x.put(0, Integer.MAX_VALUE);
        Due.answer("state + 1 wraps: digest()", x.digest(), Integer.MIN_VALUE + 4 + 9);
        x.put(0, 0);
        x.put(2, 1_000_000_000);
        Due.answer("a product wraps: digest()", x.digest(), (int) (1L + 4L + 9L * 1_000_000_001L));
        x.put(0, 2_000_000_000);
        x.put(2, 200_000_000);
        Due.answer("the sum wraps: digest()", x.digest(),
                (int) (2_000_000_001L + 4L + 9L * 200_000_001L));
    }

    private static void aDraftDoesNotShow() {
        KeyedReconciler x = eightNodes();
        x.put(1, 3);
        String before = Trees.all(x);
        Trees.draft(x, "01(11 12)");
        Due.text("a draft made", Trees.all(x), before.replace("drafted 0", "drafted 3"));
        x.recall();
        Due.text("recalled", Trees.all(x), before.replace("drafted 0", "drafted 8"));
    }
}

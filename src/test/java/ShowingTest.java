/** Promises 8 to 11: a showing, and what it keeps, lets go and moves. */
public final class ShowingTest {
    private static final int NONE = -4;

    public static void main(String[] args) {
        promise8ShowIsRefused();
        promise8ShowEmptiesTheDraft();
        promise8RootIsKeptByTypeAndKey();
        promise8ChildIsKeptByTypeAndKey();
        promise8NoneIsKeptBelowANewNode();
        promise8NodesDoNotChangeTheirParent();
        promise8NewIdsFollowThePlaces();
        promise8IdsAreNeverGivenTwice();
        promise8StatesGoWithTheirNodes();
        promises9And10KeptAndGone();
        promises9To11AreOfTheLastShowing();
        promise11Moves();
        promise11MovesAreSummed();
        promise11MovesOfManyOrders();
        promise11MovesAfterEarlierShowings();
        Due.end();
    }

    private static void promise8ShowIsRefused() {
        KeyedReconciler x = Trees.shown("00(01 02)");
        Trees.show(x, "00(02 01 03)");
        x.put(2, 7);
        String before = Trees.all(x);
        Due.answer("no draft: show()", x.show(), NONE);
        Due.text("no draft", Trees.all(x), before);
        x.open(0, 0);
        x.leaf(0, 1);
        Due.answer("a node open: show()", x.show(), NONE);
        Due.text("a node open", Trees.all(x), before.replace("drafted 0", "drafted 2"));
        Due.answer("a node open: close()", x.close(), 0);
        Due.answer("closed: show()", x.show(), 0);
        Due.text("closed: ids", Trees.ids(x), "0 1");
    }

    private static void promise8ShowEmptiesTheDraft() {
        KeyedReconciler x = Trees.shown("00(01)");
        Due.answer("shown: drafted()", x.drafted(), 0);
        Due.answer("shown: show()", x.show(), NONE);
        Due.answer("shown: close()", x.close(), NONE);
        Due.answer("shown: open(0, 0)", x.open(0, 0), 1);
    }

    private static void promise8RootIsKeptByTypeAndKey() {
        KeyedReconciler x = Trees.shown("00");
        Due.answer("same root: show()", Trees.show(x, "00"), 0);
        Due.answer("same root: id(0)", x.id(0), 0);
        Due.answer("root of another type: show()", Trees.show(x, "10"), 1);
        Due.answer("root of another type: id(0)", x.id(0), 1);
        Due.answer("root of another key: show()", Trees.show(x, "11"), 1);
        Due.answer("root of another key: id(0)", x.id(0), 2);
    }

    private static void promise8ChildIsKeptByTypeAndKey() {
        KeyedReconciler x = Trees.shown("00(01 12 23)");
        Due.answer("children: show()", Trees.show(x, "00(23 02 14 01)"), 2);
        Due.text("children: ids", Trees.ids(x), "0 3 4 5 1");
        Due.answer("children: kept()", x.kept(), 3);
        Due.answer("children: gone()", x.gone(), 1);
    }

    private static void promise8NoneIsKeptBelowANewNode() {
        KeyedReconciler x = Trees.shown("00(01(02(03)))");
        Due.answer("below a new child: show()", Trees.show(x, "00(11(02(03)))"), 3);
        Due.text("below a new child: ids", Trees.ids(x), "0 4 5 6");
        Due.answer("below a new root: show()", Trees.show(x, "10(11(02(03)))"), 4);
        Due.text("below a new root: ids", Trees.ids(x), "7 8 9 10");
        Due.answer("below a new root: kept()", x.kept(), 0);
    }

    private static void promise8NodesDoNotChangeTheirParent() {
        KeyedReconciler x = Trees.shown("00(01(05) 02(06))");
        Due.answer("exchanged: show()", Trees.show(x, "00(01(06) 02(05))"), 2);
        Due.text("exchanged: ids", Trees.ids(x), "0 1 5 3 6");
        Due.answer("up: show()", Trees.show(x, "00(01 02 06)"), 1);
        Due.text("up: ids", Trees.ids(x), "0 1 3 7");
        Due.answer("same kind at other depths: show()", Trees.show(x, "00(00(00))"), 2);
        Due.text("same kind at other depths: ids", Trees.ids(x), "0 8 9");
        Due.answer("same kind, less deep: show()", Trees.show(x, "00(00)"), 0);
        Due.text("same kind, less deep: ids", Trees.ids(x), "0 8");
    }

    private static void promise8NewIdsFollowThePlaces() {
        KeyedReconciler x = Trees.shown("00(01 02)");
        Due.answer("new between kept: show()", Trees.show(x, "00(03(01) 02(04) 01(05) 06)"), 5);
        Due.text("new between kept: ids", Trees.ids(x), "0 3 4 2 5 1 6 7");
    }

    private static void promise8IdsAreNeverGivenTwice() {
        KeyedReconciler x = Trees.shown("00(01)");
        Trees.show(x, "00");
        Due.answer("back again: show()", Trees.show(x, "00(01)"), 1);
        Due.text("back again: ids", Trees.ids(x), "0 2");
        Trees.draft(x, "00(05)");
        x.scrap();
        Due.answer("after a scrapped draft: show()", Trees.show(x, "00(06)"), 1);
        Due.text("after a scrapped draft: ids", Trees.ids(x), "0 3");
    }

    private static void promise8StatesGoWithTheirNodes() {
        KeyedReconciler x = Trees.shown("00(01(04) 02 03)");
        for (int i = 0; i < 5; i++) {
            x.put(i, 10 + i);
        }
        Trees.show(x, "00(05 03 01(06 04) 12)");
        Due.text("states: ids", Trees.ids(x), "0 5 4 1 6 2 7");
        Due.text("states", Trees.states(x), "10 0 14 11 0 12 0");
        Trees.show(x, "00(02 01(04))");
        Due.text("the state of a gone node does not come back", Trees.states(x), "10 0 11 12");
        Trees.show(x, "10(02 01(04))");
        Due.text("the state of a place does not stay", Trees.states(x), "0 0 0 0");
    }

    private static void promises9And10KeptAndGone() {
        KeyedReconciler x = Trees.shown("00(01(02 03) 04)");
        Due.answer("first: kept()", x.kept(), 0);
        Due.answer("first: gone()", x.gone(), 0);
        Due.answer("first: moves()", x.moves(), 0);
        Due.answer("part gone: show()", Trees.show(x, "00(04 05)"), 1);
        Due.answer("part gone: kept()", x.kept(), 2);
        Due.answer("part gone: gone()", x.gone(), 3);
        Due.answer("all gone: show()", Trees.show(x, "30(04 05)"), 3);
        Due.answer("all gone: kept()", x.kept(), 0);
        Due.answer("all gone: gone()", x.gone(), 3);
        Due.answer("all kept: show()", Trees.show(x, "30(05 04)"), 0);
        Due.answer("all kept: kept()", x.kept(), 3);
        Due.answer("all kept: gone()", x.gone(), 0);
    }

    private static void promises9To11AreOfTheLastShowing() {
        KeyedReconciler x = Trees.shown("00(01 02 03)");
        Trees.show(x, "00(02 01)");
        Trees.draft(x, "10(05 06)");
        x.scrap();
        x.recall();
        x.put(0, 3);
        x.open(9, 9);
        Due.answer("since: kept()", x.kept(), 3);
        Due.answer("since: gone()", x.gone(), 1);
        Due.answer("since: moves()", x.moves(), 1);
        x.show();
        Due.answer("recalled: kept()", x.kept(), 3);
        Due.answer("recalled: gone()", x.gone(), 0);
        Due.answer("recalled: moves()", x.moves(), 0);
    }

    private static void promise11Moves() {
        moves("00(01 02 03 04)", "00(01 02 03 04)", 0);
        moves("00(01 02 03 04)", "00(04 01 02 03)", 1);
        moves("00(01 02 03 04)", "00(02 03 04 01)", 1);
        moves("00(01 02 03 04)", "00(04 03 02 01)", 3);
        moves("00(01 02 03 04)", "00(02 01 04 03)", 2);
        moves("00(01 02 03 04)", "00(03 04 01 02)", 2);
        moves("00(01 02 03 04)", "00(04 05 01)", 1);
        moves("00(01 02 03 04)", "00(05 01 06 02 07 04)", 0);
        moves("00(01 02 03 04)", "00(14 01 02)", 0);
        moves("00(01 02 03 04)", "10(04 03 02 01)", 0);
        moves("00", "00(01 02)", 0);
        moves("00(01 02)", "00", 0);
        moves("00(00 01 02 03 04 05 06 07 08 09)", "00(09 08 07 06 05 04 03 02 01 00)", 9);
        moves("00(00 01 02 03 04 05 06 07 08 09)", "00(05 00 06 01 07 02 08 03 09 04)", 5);
        moves("00(00 01 02 03 04 05 06 07 08 09)", "00(07 08 00 09 01 02 05 03 04 06)", 4);
    }

    private static void moves(String before, String after, int due) {
        KeyedReconciler x = Trees.shown(before);
        Trees.show(x, after);
        Due.answer(before + " to " + after + ": moves()", x.moves(), due);
    }

    private static void promise11MovesAreSummed() {
        moves("00(01(01 02) 02(01 02))", "00(02(02 01) 01(02 01))", 3);
        moves("00(01(01(01 02) 02))", "00(01(02 01(02 01)))", 2);
        moves("00(01(05 06) 02(07 08))", "00(11(06 05) 02(08 07))", 1);
        // Children of different nodes stand in no order to one another.
        moves("00(01(05 06) 02(07 08))", "00(02(07 08) 01(05 06))", 1);
        moves("00(01(05 06) 02(05 06))", "00(01(06) 02(05))", 0);
        // A kept node may stand at a place that the tree before had not.
        moves("00(01(05 06))", "00(02 03 04 01(06 05))", 1);
    }

    /** Every order of seven children, against the trial of every set left standing. */
    private static void promise11MovesOfManyOrders() {
        for (int code = 0; code < 7 * 7 * 7 * 7 * 7 * 7 * 7; code++) {
            int[] order = digits(code);
            if (eachOnce(order)) {
                StringBuilder tree = new StringBuilder("00(");
                for (int key : order) {
                    tree.append(" 0").append(key);
                }
                moves("00(00 01 02 03 04 05 06)", tree.append(")").toString(), 7 - mostStanding(order));
            }
        }
    }

    private static int[] digits(int code) {
        int[] order = new int[7];
        for (int i = 0; i < 7; i++) {
            order[i] = code % 7;
            code /= 7;
        }
        return order;
    }

    private static boolean eachOnce(int[] order) {
        int seen = 0;
        for (int key : order) {
            seen |= 1 << key;
        }
        return seen == 127;
    }

    private static int mostStanding(int[] order) {
        int most = 0;
        for (int set = 0; set < 128; set++) {
            int last = -1;
            boolean rising = true;
            for (int i = 0; i < 7; i++) {
                if ((set >> i & 1) == 1) {
                    rising = rising && order[i] > last;
                    last = order[i];
                }
            }
            if (rising) {
                most = Math.max(most, Integer.bitCount(set));
            }
        }
        return most;
    }

    /** What an earlier showing reckoned at a place must not count when other nodes stand there. */
    private static void promise11MovesAfterEarlierShowings() {
        KeyedReconciler x = Trees.shown("00(01 02 03 04)");
        movesNext(x, "00(01 02 03 04)", 0);
        movesNext(x, "00(09 08 07 01)", 0);
        movesNext(x, "00(07(01 02) 08(03) 09(04 05))", 2);
        movesNext(x, "00(07(02 01) 09(05 04) 08)", 3);
        movesNext(x, "00(07(02 01) 09(05 04) 08)", 0);
        movesNext(x, "00(09(06 05) 07(06 01))", 1);
        movesNext(x, "00(01(02 03 04 05) 09(07 06 05) 07(01 06))", 1);
        movesNext(x, "10(07(01 06) 09(05 06) 01(05 04 03 02))", 0);
        movesNext(x, "10(01(02 03 04 05) 07(02 01))", 4);
    }

    private static void movesNext(KeyedReconciler x, String tree, int due) {
        Trees.show(x, tree);
        Due.answer("next to " + tree + ": moves()", x.moves(), due);
    }
}

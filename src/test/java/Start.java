import java.util.ArrayList;
import java.util.List;
import java.util.function.Predicate;

/** A state in which calls are tried: trees shown one after the other, then a draft. */
record Start(List<String> shown, String draft) {
    static final String SIXTEEN = "00(00(00 01 02 03) 01(00 01 02 03) 02(00 01 02) 03)";
    static final String CHAIN = "39(".repeat(16);

    private static final List<List<String>> SHOWN = List.of(
            List.of(),
            List.of("21"),
            // 6 kept, 2 gone, 2 moves, and a new node between kept ones.
            List.of("30(11(22 33(04)) 15 26(39))", "30(26(39) 15 07 11(33))"),
            List.of(SIXTEEN));

    private static final List<String> DRAFTS = List.of(
            "",
            "11(",
            "11",
            "00(10 29(05 06)",
            "00(10 29(05 06",
            "00(10 29(05 06(",
            "00(10 29(05 06))",
            "00(00 01 02 03 04 05 06 07 08 09(00 01 02 03",
            "00(00 01 02 03 04 05 06 07 08 09(00 01 02 03))",
            "00(00 01 02 03 04 05 06 07 08 09(00 01 02 03 04",
            "00(00 01 02 03 04 05 06 07 08 09(00 01 02 03 04)",
            "00(00 01 02 03 04 05 06 07 08 09(00 01 02 03 04))",
            CHAIN);

    static List<Start> all() {
        return where(start -> true);
    }

    static List<Start> where(Predicate<Start> wanted) {
        List<Start> starts = new ArrayList<>();
        for (List<String> shown : SHOWN) {
            for (String draft : DRAFTS) {
                Start start = new Start(shown, draft);
                if (wanted.test(start)) {
                    starts.add(start);
                }
            }
        }
        return starts;
    }

    static Start of(String shown, String draft) {
        return new Start(shown.isEmpty() ? List.of() : List.of(shown), draft);
    }

    KeyedReconciler make() {
        KeyedReconciler x = new KeyedReconciler();
        for (String tree : shown) {
            Trees.show(x, tree);
            x.put(0, 70);
            x.put(2, 72);
            x.put(x.size() - 1, 79);
        }
        Trees.draft(x, draft);
        return x;
    }

    int shownNodes() {
        return shown.isEmpty() ? 0 : nodes(shown.get(shown.size() - 1));
    }

    int drafted() {
        return nodes(draft);
    }

    int open() {
        return count(draft, '(') - count(draft, ')');
    }

    boolean isClosedDraft() {
        return drafted() > 0 && open() == 0;
    }

    private static int nodes(String tree) {
        return (tree.length() - count(tree, '(') - count(tree, ')') - count(tree, ' ')) / 2;
    }

    private static int count(String tree, char wanted) {
        return (int) tree.chars().filter(c -> c == wanted).count();
    }

    @Override
    public String toString() {
        return "shown " + shown + ", draft '" + draft + "'";
    }
}

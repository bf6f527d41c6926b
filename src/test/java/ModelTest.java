import java.util.ArrayList;
import java.util.List;

/** Mixed runs of calls, the same ones on the program and on the model. */
public final class ModelTest {
    private static final int RUNS = 4000;
    private static final int CALLS = 512;
    private static final int[] ODD = {-1, -4, 4, 10, 16, 17, 99, 1_000_000_000,
        Integer.MIN_VALUE, Integer.MAX_VALUE};

    private interface OfProgram {
        int ask(KeyedReconciler x, int a, int b);
    }

    private interface OfModel {
        int ask(Model m, int a, int b);
    }

    /** The ranges are what a and b are drawn below, for the most part. */
    private record Call(String name, int rangeA, int rangeB, OfProgram program, OfModel model) {
    }

    private final List<Call> calls = new ArrayList<>();
    private final Call openRoot =
            new Call("open", 1, 1, (x, a, b) -> x.open(a, b), (m, a, b) -> m.open(a, b));
    private final Numbers numbers;

    private ModelTest(int run) {
        numbers = new Numbers(run);
        // Few types and keys make trees that are alike, many make wide ones.
        int types = run % 3 > 0 ? 1 : 1 + run / 3 % 4;
        int keys = 2 + run / 12 % 9;
        addDraftCalls(types, keys);
        addShowings();
        addQuestions();
    }

    public static void main(String[] args) {
        int shown = 0;
        int moved = 0;
        int full = 0;
        for (int run = 0; run < RUNS && !Due.anyWrong(); run++) {
            Model model = new ModelTest(run).compareCalls("run " + run);
            shown += model.shownInAll;
            moved += model.movedInAll;
            full += model.fullInAll;
        }
        Due.text("the runs show, move and fill much",
                shown > 10 * RUNS && moved > RUNS && full > RUNS ? "yes"
                : "shown " + shown + ", moved " + moved + ", full " + full, "yes");
        useTooLong();
        Due.end();
    }

    private Model compareCalls(String run) {
        KeyedReconciler x = new KeyedReconciler();
        Model model = new Model();
        for (int i = 1; i <= CALLS && !Due.anyWrong(); i++) {
            // Where roots differ nothing is kept, so most roots are the same.
            boolean sameRoot = model.drafted() == 0 && numbers.below(2) == 0;
            Call call = sameRoot ? openRoot : calls.get(numbers.below(calls.size()));
            int a = argument(call.rangeA);
            int b = argument(call.rangeB);
            Due.answer(run + ", call " + i + ": " + call.name + " of " + a + ", " + b,
                    call.program.ask(x, a, b), call.model.ask(model, a, b));
        }
        return model;
    }

    /** What an object answers after its 512th call is free, but no call throws. */
    private static void useTooLong() {
        ModelTest test = new ModelTest(7);
        KeyedReconciler x = new KeyedReconciler();
        for (int i = 0; i < 200_000; i++) {
            Call call = test.calls.get(test.numbers.below(test.calls.size()));
            call.program.ask(x, test.argument(call.rangeA), test.argument(call.rangeB));
        }
    }

    private void addDraftCalls(int types, int keys) {
        add(1, "open", types, keys, (x, a, b) -> x.open(a, b), (m, a, b) -> m.open(a, b));
        add(10, "leaf", types, keys, (x, a, b) -> x.leaf(a, b), (m, a, b) -> m.leaf(a, b));
        add(2, "close", 1, 1, (x, a, b) -> x.close(), (m, a, b) -> m.close());
        add(1, "drafted", 1, 1, (x, a, b) -> x.drafted(), (m, a, b) -> m.drafted());
        // A range of six makes both rare, lest no draft ever grows.
        add(1, "scrap or recall", 6, 1, (x, a, b) -> restart(x, a), (m, a, b) -> restart(m, a));
    }

    private static int restart(KeyedReconciler x, int a) {
        if (a == 0) {
            x.scrap();
        }
        return a == 1 ? x.recall() : 0;
    }

    private static int restart(Model m, int a) {
        if (a == 0) {
            m.scrap();
        }
        return a == 1 ? m.recall() : 0;
    }

    private void addShowings() {
        add(4, "show", 1, 1, (x, a, b) -> x.show(), (m, a, b) -> m.show());
        add(1, "kept", 1, 1, (x, a, b) -> x.kept(), (m, a, b) -> m.kept());
        add(1, "gone", 1, 1, (x, a, b) -> x.gone(), (m, a, b) -> m.gone());
        add(1, "moves", 1, 1, (x, a, b) -> x.moves(), (m, a, b) -> m.moves());
    }

    private void addQuestions() {
        add(1, "size", 1, 1, (x, a, b) -> x.size(), (m, a, b) -> m.size());
        add(1, "id", 17, 1, (x, a, b) -> x.id(a), (m, a, b) -> m.id(a));
        add(1, "kind", 17, 1, (x, a, b) -> x.kind(a), (m, a, b) -> m.kind(a));
        add(1, "state", 17, 1, (x, a, b) -> x.state(a), (m, a, b) -> m.state(a));
        add(3, "put", 17, 50, (x, a, b) -> x.put(a, b), (m, a, b) -> m.put(a, b));
        add(1, "place", 60, 1, (x, a, b) -> x.place(a), (m, a, b) -> m.place(a));
        add(1, "parent", 17, 1, (x, a, b) -> x.parent(a), (m, a, b) -> m.parent(a));
        add(1, "children", 17, 1, (x, a, b) -> x.children(a), (m, a, b) -> m.children(a));
        add(1, "digest", 1, 1, (x, a, b) -> x.digest(), (m, a, b) -> m.digest());
    }

    private void add(int times, String name, int rangeA, int rangeB, OfProgram program, OfModel model) {
        for (int i = 0; i < times; i++) {
            calls.add(new Call(name, rangeA, rangeB, program, model));
        }
    }

    private int argument(int range) {
        return numbers.below(20) == 0 ? ODD[numbers.below(ODD.length)] : numbers.below(range);
    }
}

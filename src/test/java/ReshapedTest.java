import java.util.ArrayList;
import java.util.List;

/**
 * Trees that are each the one before with small changes, shown by the program and by the model.
 * In mixed calls few trees get deep and are alike; here much is kept and moves at every depth.
 */
public final class ReshapedTest {
    private static final int RUNS = 10_000;
    private static final int SHOWINGS = 4;
    private static final int MOST_NODES = 16;

    private static final class Form {
        int type;
        final int key;
        final List<Form> children = new ArrayList<>();

        Form(int type, int key) {
            this.type = type;
            this.key = key;
        }

        int nodes() {
            return 1 + children.stream().mapToInt(Form::nodes).sum();
        }

        boolean hasChild(int wanted) {
            return children.stream().anyMatch(child -> child.key == wanted);
        }
    }

    private final String run;
    private final Numbers numbers;
    private final KeyedReconciler x = new KeyedReconciler();
    private final Model model = new Model();
    private int calls = 0;

    private ReshapedTest(int number) {
        run = "run " + number;
        numbers = new Numbers(number);
    }

    public static void main(String[] args) {
        int kept = 0;
        int moved = 0;
        for (int number = 0; number < RUNS && !Due.anyWrong(); number++) {
            ReshapedTest test = new ReshapedTest(number);
            test.showTrees();
            kept += test.model.kept();
            moved += test.model.movedInAll;
        }
        Due.text("the runs keep and move much",
                kept > 5 * RUNS && moved > 2 * RUNS ? "yes" : "kept " + kept + ", moved " + moved, "yes");
        Due.end();
    }

    private void showTrees() {
        Form root = new Form(0, 0);
        // Few keys make deep trees, many make wide ones.
        int keys = 2 + numbers.below(9);
        grow(root, keys);
        for (int showing = 0; showing < SHOWINGS; showing++) {
            draft(root);
            same("show()", x.show(), model.show());
            compareAll();
            putStates();
            reshape(root);
            grow(root, keys);
        }
        Due.text(run + ": no more than 512 calls", calls <= 512 ? "yes" : calls + " calls", "yes");
    }

    private void same(String call, int got, int due) {
        calls++;
        Due.answer(run + ", call " + calls + ": " + call, got, due);
    }

    private void draft(Form form) {
        String node = "(" + form.type + ", " + form.key + ")";
        if (form.children.isEmpty()) {
            same("leaf" + node, x.leaf(form.type, form.key), model.leaf(form.type, form.key));
            return;
        }
        same("open" + node, x.open(form.type, form.key), model.open(form.type, form.key));
        form.children.forEach(this::draft);
        same("close()", x.close(), model.close());
    }

    private void compareAll() {
        same("kept()", x.kept(), model.kept());
        same("gone()", x.gone(), model.gone());
        same("moves()", x.moves(), model.moves());
        same("digest()", x.digest(), model.digest());
        for (int i = 0; i <= model.size(); i++) {
            same("id(" + i + ")", x.id(i), model.id(i));
            same("kind(" + i + ")", x.kind(i), model.kind(i));
            same("state(" + i + ")", x.state(i), model.state(i));
            same("parent(" + i + ")", x.parent(i), model.parent(i));
        }
    }

    private void putStates() {
        for (int puts = 0; puts < 4; puts++) {
            int i = numbers.below(model.size());
            int s = numbers.below(1000);
            same("put(" + i + ", " + s + ")", x.put(i, s), model.put(i, s));
        }
    }

    /** New nodes below any node, until the tree is full or chance ends it. */
    private void grow(Form root, int keys) {
        while (root.nodes() < MOST_NODES && numbers.below(16) > 0) {
            Form parent = root;
            while (!parent.children.isEmpty() && numbers.below(2) == 0) {
                parent = parent.children.get(numbers.below(parent.children.size()));
            }
            int key = numbers.below(keys);
            if (!parent.hasChild(key)) {
                int place = numbers.below(parent.children.size() + 1);
                parent.children.add(place, new Form(numbers.below(2), key));
            }
        }
    }

    private void reshape(Form form) {
        form.children.removeIf(child -> numbers.below(12) == 0);
        if (numbers.below(20) == 0) {
            form.type = numbers.below(4);
        }
        for (int swaps = numbers.below(4); swaps > 0 && !form.children.isEmpty(); swaps--) {
            Form moved = form.children.remove(numbers.below(form.children.size()));
            form.children.add(numbers.below(form.children.size() + 1), moved);
        }
        form.children.forEach(this::reshape);
    }
}

import java.util.function.ToIntFunction;

/** A call that is due to be refused, after which all answers are due to be as without it. */
final class Refused {
    private Refused() {
    }

    static void call(Start start, String name, ToIntFunction<KeyedReconciler> call, int due) {
        String told = start + ": " + name;
        KeyedReconciler x = start.make();
        var before = Asked.now(x);
        Due.answer(told, call.applyAsInt(x), due);
        Due.same(told + ", asked afterwards", Asked.now(x), before);
        for (Asked.Later later : Asked.Later.values()) {
            KeyedReconciler refused = start.make();
            call.applyAsInt(refused);
            Due.same(told + ", then " + later, later.answers(refused), later.answers(start.make()));
        }
    }

    static void open(Start start, int type, int key, int due) {
        call(start, "open(" + type + ", " + key + ")", x -> x.open(type, key), due);
    }

    static void leaf(Start start, int type, int key, int due) {
        call(start, "leaf(" + type + ", " + key + ")", x -> x.leaf(type, key), due);
    }

    static void put(Start start, int i, int s, int due) {
        call(start, "put(" + i + ", " + s + ")", x -> x.put(i, s), due);
    }
}

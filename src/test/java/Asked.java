import java.util.ArrayList;
import java.util.List;
import java.util.function.IntUnaryOperator;

/** All that can be asked of an object, each question with its answer. */
final class Asked {
    private static final int LEAST = Integer.MIN_VALUE;
    private static final int GREATEST = Integer.MAX_VALUE;

    private Asked() {
    }

    /** Some 160 calls, none of which may change anything. */
    static List<String> now(KeyedReconciler x) {
        List<String> answers = new ArrayList<>();
        answers.add("drafted() " + x.drafted());
        answers.add("kept() " + x.kept());
        answers.add("gone() " + x.gone());
        answers.add("moves() " + x.moves());
        answers.add("size() " + x.size());
        answers.add("digest() " + x.digest());
        ask(answers, "id", x::id, 17);
        ask(answers, "kind", x::kind, 17);
        ask(answers, "state", x::state, 17);
        ask(answers, "parent", x::parent, 17);
        ask(answers, "children", x::children, 17);
        ask(answers, "place", x::place, 48);
        return answers;
    }

    private static void ask(List<String> answers, String name, IntUnaryOperator question, int most) {
        for (int i = -2; i <= most; i++) {
            answers.add(name + "(" + i + ") " + question.applyAsInt(i));
        }
        answers.add(name + "(least) " + question.applyAsInt(LEAST));
        answers.add(name + "(greatest) " + question.applyAsInt(GREATEST));
    }

    /** What a draft is like can't be asked without changing it: the ways to find out. */
    enum Later {
        CLOSED_AND_SHOWN {
            @Override
            void go(KeyedReconciler x, List<String> answers) {
                closeAll(x, answers);
            }
        },
        LEAF_OF_EACH_KEY {
            @Override
            void go(KeyedReconciler x, List<String> answers) {
                for (int key = 0; key <= 9; key++) {
                    answers.add("leaf(1, " + key + ") " + x.leaf(1, key));
                }
                closeAll(x, answers);
            }
        },
        OPENED_TO_THE_LAST {
            @Override
            void go(KeyedReconciler x, List<String> answers) {
                for (int i = 0; i <= 16; i++) {
                    answers.add("open(2, 8) " + x.open(2, 8));
                }
                closeAll(x, answers);
            }
        },
        SCRAPPED {
            @Override
            void go(KeyedReconciler x, List<String> answers) {
                x.scrap();
                answers.add("leaf(3, 0) " + x.leaf(3, 0));
            }
        },
        RECALLED {
            @Override
            void go(KeyedReconciler x, List<String> answers) {
                answers.add("recall() " + x.recall());
                answers.add("close() " + x.close());
            }
        };

        abstract void go(KeyedReconciler x, List<String> answers);

        List<String> answers(KeyedReconciler x) {
            List<String> answers = new ArrayList<>();
            go(x, answers);
            answers.add("drafted() " + x.drafted());
            answers.add("show() " + x.show());
            answers.addAll(now(x));
            return answers;
        }

        private static void closeAll(KeyedReconciler x, List<String> answers) {
            for (int i = 0; i <= 16; i++) {
                answers.add("close() " + x.close());
            }
        }
    }
}

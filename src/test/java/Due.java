import java.util.List;

/** Compares answers with the ones that are due and tells the wrong ones. */
final class Due {
    private static int compared = 0;
    private static int wrong = 0;
    private static String sentence = "";

    private Due() {
    }

    /** Runs the test of one sentence of the document, which is told with each wrong answer. */
    static void sentence(String words, Runnable test) {
        int comparedBefore = compared;
        sentence = "[" + words + "] ";
        try {
            test.run();
        } catch (RuntimeException thrown) {
            wrong("the test was broken off by " + thrown);
        }
        if (compared == comparedBefore) {
            wrong("nothing was compared");
        }
        sentence = "";
    }

    static void answer(String call, long got, long due) {
        text(call, Long.toString(got), Long.toString(due));
    }

    static void text(String call, String got, String due) {
        compared++;
        if (!got.equals(due)) {
            wrong(call + " answered " + got + ", due is " + due);
        }
    }

    /** Answers to the same questions in the same order: those that differ are told alone. */
    static void same(String call, List<String> got, List<String> due) {
        answer(call + ": number of answers", got.size(), due.size());
        for (int i = 0; i < Math.min(got.size(), due.size()); i++) {
            text(call, got.get(i), due.get(i));
        }
    }

    private static void wrong(String what) {
        wrong++;
        System.out.println(sentence + what);
    }

    static boolean anyWrong() {
        return wrong > 0;
    }

    /** Ends the test: a test that compared nothing has shown nothing. */
    static void end() {
        System.out.println(compared + " answers compared, " + wrong + " wrong");
        if (wrong > 0 || compared == 0) {
            System.exit(1);
        }
    }
}

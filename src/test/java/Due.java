/** Compares answers with the ones that are due and tells the wrong ones. */
final class Due {
    private static int compared = 0;
    private static int wrong = 0;

    private Due() {
    }

    static void answer(String call, long got, long due) {
        text(call, Long.toString(got), Long.toString(due));
    }

    static void text(String call, String got, String due) {
        compared++;
        if (!got.equals(due)) {
            wrong++;
            System.out.println(call + " answered " + got + ", due is " + due);
        }
    }

    static boolean anyWrong() {
        return wrong > 0;
    }

    /** Ends the test: a test that compared nothing has shown nothing. */
    static void end() {
        System.out.println(compared + " answers compared, " + wrong + " wrong");
        if (wrong > 0 || compared == 0) {
            System.exit(1);
        }
    }
}

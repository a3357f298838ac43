/** Compares answers with those that are due, and ends a test with exit code 1 if one was wrong. */
final class Due {
    private int wrong = 0;
    private int compared = 0;

    void is(String call, long got, long due) {
        compared++;
        if (got != due) {
            wrong++;
            System.out.println(call + " answered " + got + ", due is " + due);
        }
    }

    void is(String call, boolean got, boolean due) {
        is(call, got ? 1 : 0, due ? 1 : 0);
    }

    void is(String call, String got, String due) {
        compared++;
        if (!got.equals(due)) {
            wrong++;
            System.out.println(call + " answered " + got + ", due is " + due);
        }
    }

    boolean allRight() {
        return wrong == 0;
    }

    void end() {
        System.out.println(compared + " answers, " + wrong + " wrong");
        System.exit(wrong == 0 ? 0 : 1);
    }
}

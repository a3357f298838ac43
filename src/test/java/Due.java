/** Compares answers with those that are due, and ends a test with exit code 1 if one was wrong. */
final class Due {
    private String words = "";
    private int wrong = 0;
    private int compared = 0;

    /** The document's words that the answers from here on are due to. */
    void by(String words) {
        this.words = words;
    }

    void is(String call, long got, long due) {
        is(call, Long.toString(got), Long.toString(due));
    }

    void is(String call, boolean got, boolean due) {
        is(call, Boolean.toString(got), Boolean.toString(due));
    }

    void is(String call, String got, String due) {
        compared++;
        if (!got.equals(due)) {
            wrong++;
            System.out.println("\"" + words + "\": " + call + " answered " + got + ", due is " + due);
        }
    }

    boolean allRight() {
        return wrong == 0;
    }

    void end() {
        System.out.println(compared + " answers, " + wrong + " wrong");
        System.exit(wrong == 0 ? 0 : 1);
    }
}

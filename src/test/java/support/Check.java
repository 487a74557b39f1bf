/** Compares answers with those that are due, and ends the test with exit code 1 if one was wrong. */
final class Check {
    private int made = 0;
    private int wrong = 0;
    private String sentence = "";

    /** What the checks that follow are for, in the document's words: a wrong answer is told with it. */
    void of(String words) {
        sentence = "\"" + words + "\": ";
    }

    void same(String what, long got, long due) {
        made++;
        if (got != due) {
            wrong++;
            System.out.println(sentence + what + " answered " + got + ", due is " + due);
        }
    }

    void yes(String what, boolean got) {
        same(what, got ? 1 : 0, 1);
    }

    void no(String what, boolean got) {
        same(what, got ? 1 : 0, 0);
    }

    void text(String what, String got, String due) {
        made++;
        if (!got.equals(due)) {
            wrong++;
            System.out.println(sentence + what + " answered <" + got + ">, due is <" + due + ">");
        }
    }

    boolean hasFailed() {
        return wrong > 0;
    }

    void close() {
        System.out.println(made + " checks, " + wrong + " wrong");
        if (wrong > 0 || made == 0) {
            System.exit(1);
        }
    }
}

/** Counts checks and tells those that fail. */
final class Checks {
    private int done = 0;
    private int wrong = 0;

    void same(String what, long got, long want) {
        done++;
        if (got != want) {
            wrong++;
            System.out.println(what + ": answered " + got + ", due is " + want);
        }
    }

    void holds(String what, boolean holds) {
        same(what, holds ? 1 : 0, 1);
    }

    boolean hasWrong() {
        return wrong > 0;
    }

    /** Ends the test: with exit code 1 if a check failed, or if none was made. */
    void close(String test) {
        System.out.println(test + ": " + done + " checks, " + wrong + " wrong");
        if (wrong > 0 || done == 0) {
            System.exit(1);
        }
    }
}

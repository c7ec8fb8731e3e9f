/** Compares answers with those that are due, and tells those that are not. */
final class Check {
    static final int INVALID = CutoffSheet.INVALID_ARGUMENT;
    static final int IMPOSSIBLE = CutoffSheet.NOT_POSSIBLE;
    static final int LIMIT = CutoffSheet.LIMIT_REACHED;
    static final int MISSING = CutoffSheet.NOT_FOUND;

    private static int answers;
    private static int wrong;

    private Check() {
    }

    static void due(String call, long got, long want) {
        answers++;
        if (got != want) {
            wrong++;
            if (wrong <= 20) {
                System.out.println(call + " answered " + got + ", due is " + want);
            }
        }
    }

    /** Ends the test, with exit code 1 if an answer was wrong or if there was none. */
    static void finish(String test) {
        System.out.println(test + ": " + answers + " answers, " + wrong + " not as due");
        if (wrong != 0 || answers == 0) {
            System.exit(1);
        }
    }
}

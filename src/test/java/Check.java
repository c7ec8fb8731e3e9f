import java.util.function.IntUnaryOperator;

/** Compares answers with those that are due, and tells those that are not. */
final class Check {
    static final int INVALID = CutoffSheet.INVALID_ARGUMENT;
    static final int IMPOSSIBLE = CutoffSheet.NOT_POSSIBLE;
    static final int LIMIT = CutoffSheet.LIMIT_REACHED;
    static final int MISSING = CutoffSheet.NOT_FOUND;

    /** Out of the range of every cell. */
    static final int[] NO_CELLS = {-1, 72, Integer.MIN_VALUE, Integer.MAX_VALUE};
    static final int[] NEGATIVE = {-1, Integer.MIN_VALUE};

    private static int answers;
    private static int wrong;
    private static String subject = "";

    private Check() {
    }

    /** What the next answers are about, told with those that are wrong. */
    static void about(String words) {
        subject = words.isEmpty() ? "" : words + ": ";
    }

    static void due(String call, long got, long want) {
        answers++;
        if (got != want) {
            wrong++;
            if (wrong <= 20) {
                System.out.println(subject + call + " answered " + got + ", due is " + want);
            }
        }
    }

    static void due(String call, boolean holds) {
        due(call, holds ? 1 : 0, 1);
    }

    /** That a call refuses each of the arguments. */
    static void dueInvalid(String call, IntUnaryOperator answer, int... arguments) {
        for (int argument : arguments) {
            due(call + " with " + argument, answer.applyAsInt(argument), INVALID);
        }
    }

    static int answers() {
        return answers;
    }

    /** Ends the test, with exit code 1 if an answer was wrong or if there was none. */
    static void finish(String test) {
        System.out.println(test + ": " + answers + " answers, " + wrong + " not as due");
        if (wrong != 0 || answers == 0) {
            System.exit(1);
        }
    }
}

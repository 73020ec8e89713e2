/** What the project's tests share: answers against the ones that are due. */
final class Due {
    private static int looked = 0;
    private static int wrong = 0;

    private Due() {
    }

    static void is(String call, long got, long want) {
        looked++;
        if (got != want) {
            wrong++;
            StackTraceElement at = Thread.currentThread().getStackTrace()[2];
            System.out.println(at.getFileName() + ":" + at.getLineNumber() + ": " + call + " answered " + got
                    + ", due is " + want);
        }
    }

    /** Ends the test: exit code 1 if an answer was wrong, or if none was looked at. */
    static void end() {
        System.out.println(looked + " answers looked at, " + wrong + " wrong");
        if (wrong > 0 || looked == 0) {
            System.exit(1);
        }
    }
}

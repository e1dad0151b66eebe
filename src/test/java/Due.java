/** Compares answers with what is due, and ends a test with exit code 1 if one differs. */
final class Due {
    // A broken loop would otherwise bury the sentence it broke under thousands of lines.
    private static final int MOST_TOLD = 10;

    private static int wrong = 0;
    private static int told = 0;

    private Due() {
    }

    static void is(String call, long got, long want) {
        if (got != want) {
            tell(call + " answered " + got + ", due is " + want);
        }
    }

    static void is(String call, boolean got, boolean want) {
        if (got != want) {
            tell(call + " answered " + got + ", due is " + want);
        }
    }

    static void is(String what, String got, String want) {
        if (!got.equals(want)) {
            tell(what + "\n  is     " + got + "\n  due is " + want);
        }
    }

    static void never(String what) {
        tell(what);
    }

    static void tellAnew() {
        told = 0;
    }

    static int wrongSoFar() {
        return wrong;
    }

    static void end(String test) {
        System.out.println(test + ": " + (wrong == 0 ? "all answers are as due" : wrong + " answers are not as due"));
        if (wrong != 0) {
            System.exit(1);
        }
    }

    private static void tell(String message) {
        wrong++;
        told++;
        if (told <= MOST_TOLD) {
            System.out.println(message);
        }
    }
}

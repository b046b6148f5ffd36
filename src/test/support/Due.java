/** Counts the answers that are not the ones due, and tells of them. */
final class Due {
    private static final int MOST_TOLD = 50;

    private static int wrong = 0;

    private Due() {
    }

    static void is(String what, boolean got, boolean want) {
        is(what, String.valueOf(got), String.valueOf(want));
    }

    static void is(String what, int got, int want) {
        if (got != want) {
            tell(what, String.valueOf(got), String.valueOf(want));
        }
    }

    static void is(String what, String got, String want) {
        if (!got.equals(want)) {
            tell(what, got, want);
        }
    }

    static void holds(String what, boolean holds) {
        is(what, holds, true);
    }

    /** The last call of every test: without it wrong answers would not make it fail. */
    static void end() {
        System.out.println(wrong == 0 ? "all answers are as due" : wrong + " answers are not as due");
        System.exit(wrong == 0 ? 0 : 1);
    }

    private static void tell(String what, String got, String want) {
        wrong++;
        if (wrong <= MOST_TOLD) {
            System.out.println(what + ": answered " + got + ", due is " + want);
        }
    }
}

/** Compares answers with those that are due, and tells each that is not. */
final class Due {
    interface Call {
        long answer();
    }

    private static int wrong = 0;
    private static int asked = 0;

    private Due() {
    }

    static void is(String what, long got, long want) {
        asked++;
        if (got != want) {
            wrong++;
            System.out.println(what + " answered " + got + ", due is " + want);
        }
    }

    static void is(String what, boolean got, boolean want) {
        is(what, got ? 1 : 0, want ? 1 : 0);
    }

    /** Wants just this exception, not one of its subclasses. */
    static void isThrown(String what, Class<? extends RuntimeException> want, Call call) {
        asked++;
        String got;
        try {
            got = "answered " + call.answer();
        } catch (RuntimeException e) {
            if (e.getClass() == want) {
                return;
            }
            got = "threw " + e.getClass().getSimpleName();
        }
        wrong++;
        System.out.println(what + " " + got + ", due is " + want.getSimpleName());
    }

    static void noPlace(String what, Call call) {
        isThrown(what, IndexOutOfBoundsException.class, call);
    }

    static void badArgument(String what, Call call) {
        isThrown(what, IllegalArgumentException.class, call);
    }

    static void notNow(String what, Call call) {
        isThrown(what, IllegalStateException.class, call);
    }

    /** Ends the test, with exit code 1 if an answer was wrong. */
    static void end(String test) {
        System.out.println(test + ": " + asked + " answers, " + wrong + " wrong");
        System.exit(wrong == 0 ? 0 : 1);
    }
}

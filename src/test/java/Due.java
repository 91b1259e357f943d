/** Counts the answers that are not the ones that are due, and tells of them. */
final class Due {
    interface Call {
        Object answer();
    }

    static final String ARGUMENT = "throws.IllegalArgumentException";
    static final String INDEX = "throws.IndexOutOfBoundsException";
    static final String STATE = "throws.IllegalStateException";

    private static int wrong = 0;
    private static int compared = 0;
    private static String test = "";
    private static int wrongBefore = 0;

    private Due() {
    }

    /** Tells which test the answers that follow belong to. */
    static void begin(String name) {
        test = name + ": ";
        wrongBefore = wrong;
    }

    static void same(String what, Object due, Object got) {
        compared++;
        if (!due.equals(got)) {
            wrong++;
            if (wrong <= 50) {
                System.out.println(test + what + " answered " + got + ", due is " + due);
            }
        }
    }

    /** The answer of a call, or "throws." with the name of what it throws. */
    static Object outcome(Call call) {
        try {
            return call.answer();
        } catch (RuntimeException e) {
            return "throws." + e.getClass().getSimpleName();
        }
    }

    static void call(String what, Object due, Call call) {
        same(what, due, outcome(call));
    }

    static void argument(String what, Call call) {
        call(what, ARGUMENT, call);
    }

    static void index(String what, Call call) {
        call(what, INDEX, call);
    }

    static void state(String what, Call call) {
        call(what, STATE, call);
    }

    static int wrongInThisTest() {
        return wrong - wrongBefore;
    }

    static int wrongSoFar() {
        return wrong;
    }

    static int comparedSoFar() {
        return compared;
    }

    static void end(String name) {
        System.out.println(name + ": " + (wrong == 0 ? "all answers are as due" : wrong + " wrong answers"));
        if (wrong > 0) {
            System.exit(1);
        }
    }
}

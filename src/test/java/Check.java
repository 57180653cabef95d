/** Counts and prints what is not as it is due, and ends a test with the exit code. */
final class Check {
    /** A call that may throw. */
    interface Call {
        long answer();
    }

    private int wrong;
    private int made;

    void is(String what, long got, long due) {
        is(what, Long.toString(got), Long.toString(due));
    }

    void is(String what, boolean got, boolean due) {
        is(what, Boolean.toString(got), Boolean.toString(due));
    }

    void is(String what, String got, String due) {
        made++;
        if (!got.equals(due)) {
            wrong++;
            System.out.println(what + ": got " + got + ", due is " + due);
        }
    }

    /** The call throws an exception of exactly this class. */
    void refuses(String what, Class<? extends RuntimeException> due, Call call) {
        is(what, outcome(call), "throws " + due.getSimpleName());
    }

    /** The answer as a text, or the name of the exception. */
    static String outcome(Call call) {
        try {
            return Long.toString(call.answer());
        } catch (RuntimeException e) {
            return "throws " + e.getClass().getSimpleName();
        }
    }

    void end() {
        System.out.println(made + " checks, " + wrong + " wrong");
        if (wrong != 0) {
            System.exit(1);
        }
    }
}

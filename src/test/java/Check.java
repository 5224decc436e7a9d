/** Counts what holds and what does not; a test ends with report(). */
final class Check {
    private static int held = 0;
    private static int failed = 0;

    private Check() {
    }

    static void same(String what, Object got, Object due) {
        if (due.equals(got)) {
            held++;
        } else {
            failed++;
            if (failed <= 50) {
                System.out.println(what + ": got " + got + ", due is " + due);
            }
        }
    }

    static void holds(String what, boolean it) {
        same(what, it, true);
    }

    interface Call {
        Object answer();
    }

    /** The answer of a call, or the name of what it throws. */
    static Object of(Call call) {
        try {
            return call.answer();
        } catch (RuntimeException e) {
            return e.getClass().getSimpleName();
        }
    }

    static void fails(String what, String exception, Call call) {
        same(what, of(call), exception);
    }

    static void report(String test) {
        System.out.println(test + ": " + held + " checks held, " + failed + " did not");
        if (failed > 0 || held == 0) {
            System.exit(1);
        }
    }
}

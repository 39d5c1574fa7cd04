/** What the project's tests have in common: it prints each answer that is not the one due. */
final class Expect {
    interface Call {
        long run();
    }

    static final Class<? extends RuntimeException> NO_SUCH =
            java.util.NoSuchElementException.class;
    static final Class<? extends RuntimeException> ARGUMENT = IllegalArgumentException.class;
    static final Class<? extends RuntimeException> STATE = IllegalStateException.class;

    private static int wrong = 0;
    private static int checked = 0;

    private Expect() {
    }

    static void same(String what, long got, long want) {
        checked++;
        if (got != want) {
            report(what + " answered " + got + ", due is " + want);
        }
    }

    static void throwing(String what, Class<? extends RuntimeException> want, Call call) {
        checked++;
        try {
            long got = call.run();
            report(what + " answered " + got + ", due is " + want.getName());
        } catch (RuntimeException e) {
            if (e.getClass() != want) {
                report(what + " threw " + e.getClass().getName() + ", due is " + want.getName());
            }
        }
    }

    private static void report(String line) {
        wrong++;
        if (wrong <= 40) {
            System.out.println(line);
        }
    }

    static int wrongAnswers() {
        return wrong;
    }

    static void finish(String name) {
        System.out.println(name + ": " + checked + " answers, " + wrong + " not as due");
        if (wrong != 0) {
            System.exit(1);
        }
    }
}

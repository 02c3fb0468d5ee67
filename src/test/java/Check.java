import java.util.NoSuchElementException;

/** Counts answers that are not due; end() tells them to whoever ran the test. */
final class Check {
    private static int checks = 0;
    private static int wrong = 0;

    interface Call {
        Object answer();
    }

    private Check() {
    }

    static void due(String what, Object got, Object want) {
        checks++;
        if (!got.equals(want)) {
            wrong++;
            System.out.println(what + " answered " + got + ", due is " + want);
        }
    }

    /** The call must throw just this exception, from a throw of the program's own, and change nothing. */
    static void refused(Keeper x, Class<? extends RuntimeException> kind, String what, Call call) {
        String before = Probe.of(x);
        due(what, outcome(call), kind.getName());
        due("what was changed by " + what, Probe.firstChange(before, Probe.of(x)), Probe.NO_CHANGE);
    }

    static void noIndex(Keeper x, String what, Call call) {
        refused(x, IndexOutOfBoundsException.class, what, call);
    }

    static void noArgument(Keeper x, String what, Call call) {
        refused(x, IllegalArgumentException.class, what, call);
    }

    static void noState(Keeper x, String what, Call call) {
        refused(x, IllegalStateException.class, what, call);
    }

    static void noElement(Keeper x, String what, Call call) {
        refused(x, NoSuchElementException.class, what, call);
    }

    /** What a call answered, or the name of the class of what it threw. */
    static Object outcome(Call call) {
        try {
            return call.answer();
        } catch (RuntimeException thrown) {
            return thrown.getClass().getName();
        }
    }

    static int checks() {
        return checks;
    }

    static int wrong() {
        return wrong;
    }

    static void end() {
        System.out.println(checks + " checks, " + wrong + " wrong");
        if (wrong != 0 || checks == 0) {
            System.exit(1);
        }
    }
}

/** Counts answers that are not due; end() tells them to whoever ran the test. */
final class Check {
    private static int checks = 0;
    private static int wrong = 0;

    interface Call {
        Object answer();
    }

    private Check() {
    }

    static void due(String what, Object got, Object want) {
        checks++;
        if (!got.equals(want)) {
            wrong++;
            System.out.println(what + " answered " + got + ", due is " + want);
        }
    }

    /** The call must throw just this exception, from a throw of the program's own, and change nothing. */
    static void refused(Tollkeeper x, Class<? extends RuntimeException> kind, String what, Call call) {
        String before = State.of(x);
        due(what, outcome(call), kind.getName());
        due("the state after " + what, State.of(x), before);
    }

    static void noIndex(Tollkeeper x, String what, Call call) {
        refused(x, IndexOutOfBoundsException.class, what, call);
    }

    static void noArgument(Tollkeeper x, String what, Call call) {
        refused(x, IllegalArgumentException.class, what, call);
    }

    static void noState(Tollkeeper x, String what, Call call) {
        refused(x, IllegalStateException.class, what, call);
    }

    static void noElement(Tollkeeper x, String what, Call call) {
        refused(x, java.util.NoSuchElementException.class, what, call);
    }

    /** What a call answered, or the name of the class of what it threw. */
    static Object outcome(Call call) {
        try {
            return call.answer();
        } catch (RuntimeException thrown) {
            return thrown.getClass().getName();
        }
    }

    static void end() {
        System.out.println(checks + " checks, " + wrong + " wrong");
        if (wrong != 0 || checks == 0) {
            System.exit(1);
        }
    }
}

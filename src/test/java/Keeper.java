import java.lang.reflect.InvocationTargetException;
import java.lang.reflect.Method;
import java.lang.reflect.Modifier;
import java.util.ArrayList;
import java.util.List;
import java.util.Map;
import java.util.TreeMap;

/**
 * A Tollkeeper with its calls: it counts them, since the document says nothing of an object behind
 * its 512th call, and keeps them, so that they can be made once more on another object.
 */
final class Keeper {
    static final int MOST_CALLS = 512;
    private static final Map<String, Method> FACE = face();

    private record Told(String name, int[] arguments) {
    }

    private final Tollkeeper x = new Tollkeeper();
    private final List<Told> calls = new ArrayList<>();

    private static Map<String, Method> face() {
        Map<String, Method> face = new TreeMap<>();
        for (Method method : Tollkeeper.class.getDeclaredMethods()) {
            if (Modifier.isPublic(method.getModifiers())) {
                face.put(method.getName(), method);
            }
        }
        return face;
    }

    static int parameterCount(String name) {
        return FACE.get(name).getParameterCount();
    }

    int callsLeft() {
        return MOST_CALLS - calls.size();
    }

    Object call(String name, int... arguments) {
        if (callsLeft() == 0) {
            throw new AssertionError("an object is used for at most 512 calls");
        }
        calls.add(new Told(name, arguments));
        Object[] boxed = new Object[arguments.length];
        for (int i = 0; i < boxed.length; i++) {
            boxed[i] = arguments[i];
        }
        try {
            return FACE.get(name).invoke(x, boxed);
        } catch (InvocationTargetException thrown) {
            if (thrown.getCause() instanceof RuntimeException cause) {
                throw cause;
            }
            throw new AssertionError(name, thrown.getCause());
        } catch (IllegalAccessException unseen) {
            throw new AssertionError(name, unseen);
        }
    }

    /** Another object on which the same calls were made. */
    Keeper again() {
        Keeper twin = new Keeper();
        for (Told told : calls) {
            Check.outcome(() -> twin.call(told.name, told.arguments));
        }
        return twin;
    }

    // ---- what a call must answer

    static String written(String name, int... arguments) {
        StringBuilder text = new StringBuilder(name).append('(');
        String comma = "";
        for (int argument : arguments) {
            text.append(comma).append(argument);
            comma = ", ";
        }
        return text.append(')').toString();
    }

    void answers(long want, String name, int... arguments) {
        Object got = Check.outcome(() -> call(name, arguments));
        Object number = got instanceof Character c ? (long) c : got instanceof Number n ? n.longValue() : got;
        Check.due(written(name, arguments), number, want);
    }

    void answers(boolean want, String name, int... arguments) {
        Check.due(written(name, arguments), Check.outcome(() -> call(name, arguments)), want);
    }

    void noIndex(String name, int... arguments) {
        Check.noIndex(this, written(name, arguments), () -> call(name, arguments));
    }

    void noArgument(String name, int... arguments) {
        Check.noArgument(this, written(name, arguments), () -> call(name, arguments));
    }

    void noState(String name, int... arguments) {
        Check.noState(this, written(name, arguments), () -> call(name, arguments));
    }

    void noElement(String name, int... arguments) {
        Check.noElement(this, written(name, arguments), () -> call(name, arguments));
    }

    // ---- the face

    int pass(int minutes) {
        return (int) call("pass", minutes);
    }

    int now() {
        return (int) call("now");
    }

    int road(int gate, int other, int length) {
        return (int) call("road", gate, other, length);
    }

    int distance(int gate, int other) {
        return (int) call("distance", gate, other);
    }

    int setPause(int minutes) {
        return (int) call("setPause", minutes);
    }

    int setRate(int its, int rate) {
        return (int) call("setRate", its, rate);
    }

    int spell(int sign) {
        return (int) call("spell", sign);
    }

    int insert(int sign, int place) {
        return (int) call("insert", sign, place);
    }

    int mirror() {
        return (int) call("mirror");
    }

    int clearSpelled() {
        return (int) call("clearSpelled");
    }

    char charAt(int place) {
        return (char) call("charAt", place);
    }

    boolean alike(int sign, int other) {
        return (boolean) call("alike", sign, other);
    }

    int register(int driver, int its) {
        return (int) call("register", driver, its);
    }

    int sell(int plate, int driver) {
        return (int) call("sell", plate, driver);
    }

    int plates() {
        return (int) call("plates");
    }

    int plateAt(int place) {
        return (int) call("plateAt", place);
    }

    int holder(int plate, int minute) {
        return (int) call("holder", plate, minute);
    }

    int read(int gate, int minute) {
        return (int) call("read", gate, minute);
    }

    int correct(int reading, int plate) {
        return (int) call("correct", reading, plate);
    }

    int uncorrect(int reading) {
        return (int) call("uncorrect", reading);
    }

    int plateOf(int reading) {
        return (int) call("plateOf", reading);
    }

    int cost(int reading, int plate) {
        return (int) call("cost", reading, plate);
    }

    int trips(int plate) {
        return (int) call("trips", plate);
    }

    int tripsAnew(int plate) {
        return (int) call("tripsAnew", plate);
    }

    int tripOf(int reading) {
        return (int) call("tripOf", reading);
    }

    int toll(int plate, int trip) {
        return (int) call("toll", plate, trip);
    }

    int driverOf(int plate, int trip) {
        return (int) call("driverOf", plate, trip);
    }

    int due(int driver) {
        return (int) call("due", driver);
    }

    int dueAnew(int driver) {
        return (int) call("dueAnew", driver);
    }

    int settle() {
        return (int) call("settle");
    }

    long billed(int driver) {
        return (long) call("billed", driver);
    }

    long paidBack(int driver) {
        return (long) call("paidBack", driver);
    }

    int warrant(int plate, int from, int to) {
        return (int) call("warrant", plate, from, to);
    }

    int ask(int warrant, int place) {
        return (int) call("ask", warrant, place);
    }

    int stale(int warrant) {
        return (int) call("stale", warrant);
    }
}

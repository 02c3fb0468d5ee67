import java.lang.reflect.Constructor;
import java.lang.reflect.Field;
import java.lang.reflect.Method;
import java.lang.reflect.Modifier;
import java.util.NoSuchElementException;
import java.util.Set;
import java.util.TreeSet;

/** The public face, and promise 1: a new object. */
public final class FaceTest {
    private static final String INDEX = " IndexOutOfBoundsException";
    private static final String ARGUMENT = " IllegalArgumentException";
    private static final String STATE = " IllegalStateException";
    private static final String ELEMENT = " NoSuchElementException";

    public static void main(String[] args) {
        classIsPublicAndFinal();
        methodsAreThoseOfTheDocument();
        nothingElseIsSeen();
        newObjectIsEmpty();
        objectsShareNothing();
        Check.end();
    }

    private static void classIsPublicAndFinal() {
        int flags = Tollkeeper.class.getModifiers();
        Check.due("public", Modifier.isPublic(flags), true);
        Check.due("final", Modifier.isFinal(flags), true);
        Check.due("NONE", Tollkeeper.NONE, -1);
    }

    private static void methodsAreThoseOfTheDocument() {
        Set<String> want = new TreeSet<>(Set.of(
            "int pass(int)" + ARGUMENT + STATE, "int now()",
            "int road(int,int,int)" + INDEX + ARGUMENT, "int distance(int,int)" + INDEX,
            "int setPause(int)" + ARGUMENT, "int setRate(int,int)" + ARGUMENT,
            "int spell(int)" + INDEX + STATE, "int insert(int,int)" + INDEX + ARGUMENT + STATE,
            "int mirror()", "int clearSpelled()", "char charAt(int)" + ELEMENT,
            "boolean alike(int,int)" + INDEX + ARGUMENT,
            "int register(int,int)" + INDEX + ARGUMENT + STATE, "int sell(int,int)" + INDEX,
            "int plates()", "int plateAt(int)" + ELEMENT, "int holder(int,int)" + INDEX + ARGUMENT,
            "int read(int,int)" + INDEX + ARGUMENT + STATE, "int correct(int,int)" + INDEX,
            "int uncorrect(int)" + INDEX + STATE, "int plateOf(int)" + INDEX, "int cost(int,int)" + INDEX,
            "int trips(int)" + INDEX, "int tripsAnew(int)" + INDEX, "int tripOf(int)" + INDEX,
            "int toll(int,int)" + INDEX, "int driverOf(int,int)" + INDEX,
            "int due(int)" + INDEX, "int dueAnew(int)" + INDEX, "int settle()",
            "long billed(int)" + INDEX, "long paidBack(int)" + INDEX,
            "int warrant(int,int,int)" + INDEX + ARGUMENT + STATE,
            "int ask(int,int)" + INDEX + STATE + ELEMENT, "int stale(int)" + INDEX));
        Set<String> got = new TreeSet<>();
        for (Method method : Tollkeeper.class.getDeclaredMethods()) {
            if (Modifier.isPublic(method.getModifiers())) {
                got.add(written(method));
            }
        }
        Check.due("the public methods", got, want);
    }

    private static String written(Method method) {
        StringBuilder text = new StringBuilder(method.getReturnType().getName());
        text.append(' ').append(method.getName()).append('(');
        String comma = "";
        for (Class<?> kind : method.getParameterTypes()) {
            text.append(comma).append(kind.getName());
            comma = ",";
        }
        text.append(')');
        for (Class<?> kind : method.getExceptionTypes()) {
            text.append(' ').append(kind.getSimpleName());
        }
        return text.toString();
    }

    private static void nothingElseIsSeen() {
        Set<String> publicNames = new TreeSet<>();
        for (Method method : Tollkeeper.class.getDeclaredMethods()) {
            if (Modifier.isPublic(method.getModifiers())) {
                publicNames.add(method.getName());
            }
        }
        for (Method method : Tollkeeper.class.getDeclaredMethods()) {
            boolean isPublic = Modifier.isPublic(method.getModifiers());
            boolean isHidden = Modifier.isPrivate(method.getModifiers())
                && !publicNames.contains(method.getName());
            Check.due(method.getName() + " is of the face or hidden", isPublic || isHidden, true);
        }
        for (Field field : Tollkeeper.class.getDeclaredFields()) {
            boolean isConstant = field.getName().equals("NONE") && Modifier.isPublic(field.getModifiers());
            Check.due(field.getName() + " is NONE or hidden",
                isConstant || Modifier.isPrivate(field.getModifiers()), true);
        }
        Constructor<?>[] constructors = Tollkeeper.class.getDeclaredConstructors();
        Check.due("constructors", constructors.length, 1);
        Check.due("its parameters", constructors[0].getParameterCount(), 0);
    }

    private static void newObjectIsEmpty() {
        Keeper x = new Keeper();
        Check.due("now", x.now(), 0);
        for (int gate = 0; gate < 8; gate++) {
            for (int other = 0; other < 8; other++) {
                Check.due("distance", x.distance(gate, other), gate == other ? 0 : Tollkeeper.NONE);
            }
        }
        Check.due("plates", x.plates(), 0);
        Check.due("plateOf(0)", Check.outcome(() -> x.plateOf(0)), IndexOutOfBoundsException.class.getName());
        Check.due("stale(0)", Check.outcome(() -> x.stale(0)), IndexOutOfBoundsException.class.getName());
        Check.due("charAt(0)", Check.outcome(() -> x.charAt(0)), NoSuchElementException.class.getName());
        for (int driver = 0; driver < 6; driver++) {
            Check.due("due", x.due(driver), 0);
            Check.due("billed", x.billed(driver), 0L);
            Check.due("paidBack", x.paidBack(driver), 0L);
        }
        Check.due("settle", x.settle(), 0);
        Check.due("mirror", x.mirror(), 0);
    }

    private static void objectsShareNothing() {
        String atFirst = Probe.of(new Keeper());
        Keeper used = Made.oneRoadAndPlate();
        used.setPause(7);
        used.setRate(0, 9);
        used.alike(0, 1);
        used.read(0, 0);
        used.warrant(0, 0, 0);
        used.settle();
        Keeper x = new Keeper();
        Check.due("what a new object has of a used one", Probe.firstChange(atFirst, Probe.of(x)), Probe.NO_CHANGE);
        Check.due("its pause", x.setPause(7), 30);
        Check.due("its rate", x.setRate(0, 9), 1);
        Check.due("its signs", x.alike(0, 1), true);
        Check.due("its road", x.road(0, 1, 5), 0);
    }
}

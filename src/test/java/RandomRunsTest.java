import java.lang.reflect.InvocationTargetException;
import java.lang.reflect.Method;
import java.util.List;
import java.util.Random;

/** Runs of 512 calls, the same at each start of the test; each answer must be that of the model. */
public final class RandomRunsTest {
    private static final int RUNS = 600;
    private static final int[] ODD = {-2, -1, 60, 61, 1000, Integer.MAX_VALUE, Integer.MIN_VALUE};
    private static final int[] SIGNS = {0, 0, 0, 1, 1, 2, 9, 10, 10, 13, 14, 14};
    private static final List<String> TELLING = List.of(
        "pass", "road", "setPause", "setRate", "spell", "insert", "mirror", "clearSpelled", "alike",
        "register", "sell", "read", "correct", "uncorrect", "settle", "warrant", "ask");
    private static final List<String> ASKING = List.of(
        "now", "distance", "charAt", "plates", "plateAt", "holder", "plateOf", "cost", "trips",
        "tripsAnew", "tripOf", "toll", "driverOf", "due", "dueAnew", "billed", "paidBack", "stale");

    private final Random random;
    private final Keeper x = new Keeper();
    private final PlainModel model = new PlainModel();
    private final StringBuilder log = new StringBuilder();
    private final int gates;
    private final int longestText;
    private final int longestPass;
    private final int oddness;
    private int plates = 0;
    private int readings = 0;
    private int warrants = 0;

    private RandomRunsTest(int seed) {
        random = new Random(seed);
        gates = 2 + random.nextInt(7);
        longestText = 1 + random.nextInt(3);
        longestPass = new int[] {3, 40, 300, 2000}[random.nextInt(4)];
        oddness = new int[] {0, 20, 60}[random.nextInt(3)];
    }

    public static void main(String[] args) {
        for (int seed = 0; seed < RUNS; seed++) {
            if (!new RandomRunsTest(seed).isGood()) {
                System.out.println("in the run of the seed " + seed);
                break;
            }
        }
        Check.end();
    }

    private boolean isGood() {
        boolean isGood = true;
        while (isGood && x.callsLeft() > 0) {
            String name = nextName();
            // Texts stay short, so that readings often fit plates.
            if (name.equals("spell") && random.nextInt(longestText) == 0 && x.callsLeft() > 1) {
                isGood = isSame("clearSpelled");
            }
            int[] arguments = new int[Keeper.parameterCount(name)];
            for (int place = 0; place < arguments.length; place++) {
                arguments[place] = argument(name, place);
            }
            isGood &= isSame(name, arguments);
        }
        if (!isGood) {
            System.out.println(log);
        }
        return isGood;
    }

    private boolean isSame(String name, int... arguments) {
        String call = Keeper.written(name, arguments);
        Object got = Check.outcome(() -> x.call(name, arguments));
        Object want = Check.outcome(() -> onModel(name, arguments));
        log.append(call).append(" -> ").append(want).append('\n');
        Check.due(call, got, want);
        count(name, want instanceof Integer);
        return got.equals(want);
    }

    private void count(String name, boolean isDone) {
        if (isDone && name.equals("register")) {
            plates++;
        } else if (isDone && name.equals("read")) {
            readings++;
        } else if (isDone && name.equals("warrant")) {
            warrants++;
        }
    }

    /** The model keeps nothing, so all that it answers is joined anew. */
    private Object onModel(String name, int... arguments) {
        String plain = name.replace("Anew", "");
        for (Method method : PlainModel.class.getDeclaredMethods()) {
            if (method.getName().equals(plain) && method.getParameterCount() == arguments.length) {
                return invokeOnModel(method, arguments);
            }
        }
        throw new AssertionError(name);
    }

    private Object invokeOnModel(Method method, int... arguments) {
        Object[] boxed = new Object[arguments.length];
        for (int i = 0; i < boxed.length; i++) {
            boxed[i] = arguments[i];
        }
        try {
            return method.invoke(model, boxed);
        } catch (InvocationTargetException thrown) {
            if (thrown.getCause() instanceof RuntimeException cause) {
                throw cause;
            }
            throw new AssertionError(method.getName(), thrown.getCause());
        } catch (IllegalAccessException unseen) {
            throw new AssertionError(method.getName(), unseen);
        }
    }

    /** Half of all calls tell something; texts and readings are told most. */
    private String nextName() {
        int dice = random.nextInt(100);
        if (dice < 12) {
            return "spell";
        }
        if (dice < 17) {
            return "clearSpelled";
        }
        if (dice < 32) {
            return "read";
        }
        if (dice < 37) {
            return "register";
        }
        List<String> names = dice < 67 ? TELLING : ASKING;
        return names.get(random.nextInt(names.size()));
    }

    private int below(int bound) {
        return bound <= 0 ? 0 : random.nextInt(bound);
    }

    private int argument(String name, int place) {
        if (oddness > 0 && random.nextInt(oddness) == 0) {
            return ODD[random.nextInt(ODD.length)];
        }
        switch (name) {
            case "pass":
                return 1 + below(longestPass);
            case "road":
                return place < 2 ? below(gates) : below(4) * 7 + below(3) * below(60);
            case "distance":
                return below(gates);
            case "setPause":
                return below(3) * below(100);
            case "setRate":
                return below(4) + place * below(48);
            case "spell":
                return SIGNS[random.nextInt(SIGNS.length)];
            case "insert":
                return place == 0 ? SIGNS[random.nextInt(SIGNS.length)] : below(4);
            case "alike":
                return below(12);
            case "register":
                return below(place == 0 ? 6 : 4);
            case "sell":
                return place == 0 ? below(plates) : below(6);
            case "read":
                return place == 0 ? below(gates) : minute();
            case "correct":
                return place == 0 ? below(readings) : below(plates + 1) - 1;
            case "warrant":
                return place == 0 ? below(plates) : below(3) + (place - 1) * below(32);
            case "ask":
                return place == 0 ? below(warrants) : below(1 + readings / 2);
            case "holder":
                return place == 0 ? below(plates) : minute();
            case "cost":
                return place == 0 ? below(readings) : below(plates);
            case "toll":
            case "driverOf":
                return place == 0 ? below(plates) : below(4);
            case "trips":
            case "tripsAnew":
                return below(plates);
            case "uncorrect":
            case "plateOf":
            case "tripOf":
                return below(readings);
            case "stale":
                return below(warrants);
            case "charAt":
            case "plateAt":
                return below(5);
            default:
                return below(6);
        }
    }

    private int minute() {
        int now = model.now();
        return random.nextBoolean() ? now - below(Math.min(now + 1, 200)) : below(now + 1);
    }
}

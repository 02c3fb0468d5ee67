import java.util.Random;

/** Runs of 512 calls, the same at each start of the test; each answer must be that of the model. */
public final class RandomRunsTest {
    private static final int RUNS = 600;
    private static final int CALLS = 512;
    private static final int KINDS = 35;
    private static final int[] ODD = {-2, -1, 60, 61, 1000, Integer.MAX_VALUE, Integer.MIN_VALUE};
    private static final String[] NAMES = {
        "pass", "road", "setPause", "setRate", "spell", "insert", "mirror", "clearSpelled", "alike",
        "register", "sell", "read", "correct", "uncorrect", "settle", "warrant", "ask",
        "now", "distance", "charAt", "plates", "plateAt", "holder", "plateOf", "cost", "trips",
        "tripsAnew", "tripOf", "toll", "driverOf", "due", "dueAnew", "billed", "paidBack", "stale"};

    private final Random random;
    private final Tollkeeper x = new Tollkeeper();
    private final PlainModel model = new PlainModel();
    private final StringBuilder log = new StringBuilder();
    private final int gates;
    private final int longestText;
    private final int longestPass;
    private final int oddness;
    private int plates = 0;
    private int readings = 0;
    private int warrants = 0;

    private RandomRunsTest(int seed) {
        random = new Random(seed);
        gates = 2 + random.nextInt(7);
        longestText = 1 + random.nextInt(3);
        longestPass = new int[] {3, 40, 300, 2000}[random.nextInt(4)];
        oddness = new int[] {0, 20, 60}[random.nextInt(3)];
    }

    public static void main(String[] args) {
        for (int seed = 0; seed < RUNS; seed++) {
            if (!new RandomRunsTest(seed).isGood()) {
                System.out.println("in the run of the seed " + seed);
                break;
            }
        }
        Check.end();
    }

    private boolean isGood() {
        for (int i = 0; i < CALLS; i++) {
            int kind = nextKind();
            int a = argument(kind, 0);
            int b = argument(kind, 1);
            int c = argument(kind, 2);
            String call = NAMES[kind] + "(" + a + ", " + b + ", " + c + ")";
            Object got = Check.outcome(() -> onProgram(kind, a, b, c));
            Object want = Check.outcome(() -> onModel(kind, a, b, c));
            log.append(call).append(" -> ").append(want).append('\n');
            Check.due(call, got, want);
            if (!got.equals(want)) {
                System.out.println(log);
                return false;
            }
            count(NAMES[kind], want instanceof Integer);
        }
        return true;
    }

    private void count(String name, boolean isDone) {
        if (isDone && name.equals("register")) {
            plates++;
        } else if (isDone && name.equals("read")) {
            readings++;
        } else if (isDone && name.equals("warrant")) {
            warrants++;
        }
    }

    /** Half of all calls tell something; texts and readings are told most. */
    private int nextKind() {
        int dice = random.nextInt(100);
        if (dice < 12) {
            return 4;
        }
        if (dice < 17) {
            return 7;
        }
        if (dice < 32) {
            return 11;
        }
        if (dice < 37) {
            return 9;
        }
        return dice < 67 ? random.nextInt(17) : 17 + random.nextInt(KINDS - 17);
    }

    private int below(int bound) {
        return bound <= 0 ? 0 : random.nextInt(bound);
    }

    private int argument(int kind, int place) {
        if (oddness > 0 && random.nextInt(oddness) == 0) {
            return ODD[random.nextInt(ODD.length)];
        }
        switch (NAMES[kind]) {
            case "pass":
                return 1 + below(longestPass);
            case "road":
                return place < 2 ? below(gates) : below(4) * 7 + below(3) * below(60);
            case "distance":
                return below(gates);
            case "setPause":
                return below(3) * below(100);
            case "setRate":
                return below(4) + place * below(48);
            case "spell":
                return sign();
            case "insert":
                return place == 0 ? sign() : below(4);
            case "alike":
                return below(12);
            case "register":
                return below(place == 0 ? 6 : 4);
            case "sell":
                return place == 0 ? below(plates) : below(6);
            case "read":
                return place == 0 ? below(gates) : minute();
            case "correct":
                return place == 0 ? below(readings) : below(plates + 1) - 1;
            case "warrant":
                return place == 0 ? below(plates) : below(3) + (place - 1) * below(32);
            case "ask":
                return place == 0 ? below(warrants) : below(1 + readings / 2);
            case "holder":
                return place == 0 ? below(plates) : minute();
            case "cost":
                return place == 0 ? below(readings) : below(plates);
            case "toll":
            case "driverOf":
                return place == 0 ? below(plates) : below(4);
            case "trips":
            case "tripsAnew":
                return below(plates);
            case "uncorrect":
            case "plateOf":
            case "tripOf":
                return below(readings);
            case "stale":
                return below(warrants);
            case "charAt":
            case "plateAt":
                return below(5);
            default:
                return below(6);
        }
    }

    private int minute() {
        int now = x.now();
        return random.nextBoolean() ? now - below(Math.min(now + 1, 200)) : below(now + 1);
    }

    /** Few signs, so that readings often fit plates; short texts, by clearing in between. */
    private int sign() {
        if (random.nextInt(longestText) == 0) {
            x.clearSpelled();
            model.clearSpelled();
        }
        int[] signs = {0, 0, 0, 1, 1, 2, 9, 10, 10, 13, 14, 14};
        return signs[random.nextInt(signs.length)];
    }

    private Object onProgram(int kind, int a, int b, int c) {
        switch (NAMES[kind]) {
            case "pass": return x.pass(a);
            case "road": return x.road(a, b, c);
            case "setPause": return x.setPause(a);
            case "setRate": return x.setRate(a, b);
            case "spell": return x.spell(a);
            case "insert": return x.insert(a, b);
            case "mirror": return x.mirror();
            case "clearSpelled": return x.clearSpelled();
            case "alike": return x.alike(a, b);
            case "register": return x.register(a, b);
            case "sell": return x.sell(a, b);
            case "read": return x.read(a, b);
            case "correct": return x.correct(a, b);
            case "uncorrect": return x.uncorrect(a);
            case "settle": return x.settle();
            case "warrant": return x.warrant(a, b, c);
            case "ask": return x.ask(a, b);
            case "now": return x.now();
            case "distance": return x.distance(a, b);
            case "charAt": return x.charAt(a);
            case "plates": return x.plates();
            case "plateAt": return x.plateAt(a);
            case "holder": return x.holder(a, b);
            case "plateOf": return x.plateOf(a);
            case "cost": return x.cost(a, b);
            case "trips": return x.trips(a);
            case "tripsAnew": return x.tripsAnew(a);
            case "tripOf": return x.tripOf(a);
            case "toll": return x.toll(a, b);
            case "driverOf": return x.driverOf(a, b);
            case "due": return x.due(a);
            case "dueAnew": return x.dueAnew(a);
            case "billed": return x.billed(a);
            case "paidBack": return x.paidBack(a);
            case "stale": return x.stale(a);
            default: throw new AssertionError(kind);
        }
    }

    private Object onModel(int kind, int a, int b, int c) {
        switch (NAMES[kind]) {
            case "pass": return model.pass(a);
            case "road": return model.road(a, b, c);
            case "setPause": return model.setPause(a);
            case "setRate": return model.setRate(a, b);
            case "spell": return model.spell(a);
            case "insert": return model.insert(a, b);
            case "mirror": return model.mirror();
            case "clearSpelled": return model.clearSpelled();
            case "alike": return model.alike(a, b);
            case "register": return model.register(a, b);
            case "sell": return model.sell(a, b);
            case "read": return model.read(a, b);
            case "correct": return model.correct(a, b);
            case "uncorrect": return model.uncorrect(a);
            case "settle": return model.settle();
            case "warrant": return model.warrant(a, b, c);
            case "ask": return model.ask(a, b);
            case "now": return model.now();
            case "distance": return model.distance(a, b);
            case "charAt": return model.charAt(a);
            case "plates": return model.plates();
            case "plateAt": return model.plateAt(a);
            case "holder": return model.holder(a, b);
            case "plateOf": return model.plateOf(a);
            case "cost": return model.cost(a, b);
            case "trips": return model.trips(a);
            case "tripsAnew": return model.trips(a);
            case "tripOf": return model.tripOf(a);
            case "toll": return model.toll(a, b);
            case "driverOf": return model.driverOf(a, b);
            case "due": return model.due(a);
            case "dueAnew": return model.due(a);
            case "billed": return model.billed(a);
            case "paidBack": return model.paidBack(a);
            case "stale": return model.stale(a);
            default: throw new AssertionError(kind);
        }
    }
}

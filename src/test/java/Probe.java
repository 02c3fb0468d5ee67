import java.util.List;

/**
 * All that can be found out about an object: what can be asked, and what calls answer that change
 * it, so that nothing stays hidden. Each part asks an object of its own on which the same calls
 * were made; no part makes more than some 240 calls.
 */
final class Probe {
    static final String NO_CHANGE = "nothing";
    private static final int GATES = 8;
    private static final int SIGNS = 15;
    private static final int DRIVERS = 6;
    private static final int CLASSES = 4;
    private static final int COSTED_READINGS = 15;

    private final Keeper x;
    private final StringBuilder text = new StringBuilder();

    private Probe(Keeper asked) {
        x = asked.again();
    }

    static String of(Keeper asked) {
        List<Probe> parts = List.of(new Probe(asked), new Probe(asked), new Probe(asked), new Probe(asked),
            new Probe(asked));
        parts.get(0).tellRoadsAndRates();
        parts.get(1).tellTextAndSigns();
        parts.get(2).tellPlatesAndReadings();
        parts.get(3).tellTripsAndBills();
        parts.get(4).tellWarrantsAndCosts();
        StringBuilder whole = new StringBuilder();
        for (Probe part : parts) {
            whole.append(part.text);
        }
        return whole.toString();
    }

    /** The first line in which two objects differ. */
    static String firstChange(String before, String after) {
        List<String> wants = before.lines().toList();
        List<String> gots = after.lines().toList();
        for (int i = 0; i < Math.min(wants.size(), gots.size()); i++) {
            if (!wants.get(i).equals(gots.get(i))) {
                return wants.get(i) + " is now " + gots.get(i);
            }
        }
        return wants.size() == gots.size() ? NO_CHANGE : "how much there is to tell";
    }

    /** Tells the outcome; true if the call threw nothing. */
    private boolean tell(String name, int... arguments) {
        Object outcome = Check.outcome(() -> x.call(name, arguments));
        text.append(Keeper.written(name, arguments)).append(' ').append(outcome).append('\n');
        return !(outcome instanceof String);
    }

    private void tellRoadsAndRates() {
        tell("now");
        for (int gate = 0; gate < GATES; gate++) {
            for (int other = 0; other < GATES; other++) {
                tell("distance", gate, other);
            }
        }
        for (int gate = 0; gate < GATES; gate++) {
            for (int other = gate + 1; other < GATES; other++) {
                tell("road", gate, other, 0);
            }
        }
        tell("setPause", 0);
        for (int its = 0; its < CLASSES; its++) {
            tell("setRate", its, 0);
        }
        tell("pass", 1);
    }

    private void tellTextAndSigns() {
        for (int place = 0; tell("charAt", place); place++) {
            continue;
        }
        for (int sign = 0; sign < SIGNS; sign++) {
            for (int other = sign + 1; other < SIGNS; other++) {
                tell("alike", sign, other);
            }
        }
        tell("register", 0, 0);
        tell("read", 0, 0);
        tell("warrant", 0, 0, 0);
        tell("spell", 0);
        tell("mirror");
        tell("clearSpelled");
    }

    private void tellPlatesAndReadings() {
        tell("plates");
        int now = x.now();
        for (int plate = 0; tell("plateAt", plate); plate++) {
            tell("holder", plate, 0);
            tell("holder", plate, now / 2);
            tell("holder", plate, now - 1);
            tell("holder", plate, now);
        }
        int readings = 0;
        while (tell("plateOf", readings)) {
            tell("tripOf", readings);
            readings++;
        }
        for (int reading = 0; reading < readings; reading++) {
            tell("uncorrect", reading);
        }
    }

    private void tellTripsAndBills() {
        for (int plate = 0; tell("trips", plate); plate++) {
            tell("tripsAnew", plate);
            for (int trip = 0; tell("toll", plate, trip); trip++) {
                tell("driverOf", plate, trip);
            }
        }
        for (int driver = 0; driver < DRIVERS; driver++) {
            tell("due", driver);
            tell("dueAnew", driver);
            tell("billed", driver);
            tell("paidBack", driver);
        }
        tell("settle");
    }

    private void tellWarrantsAndCosts() {
        for (int warrant = 0; tell("stale", warrant); warrant++) {
            for (int place = 0; tell("ask", warrant, place); place++) {
                continue;
            }
        }
        for (int reading = 0; reading < COSTED_READINGS && tell("plateOf", reading); reading++) {
            for (int plate = 0; tell("cost", reading, plate); plate++) {
                continue;
            }
        }
    }
}

import java.util.NoSuchElementException;

/** Everything that can be asked of an object without changing it. */
final class State {
    private static final int GATES = 8;
    private static final int DRIVERS = 6;

    private final Tollkeeper x;
    private final StringBuilder text = new StringBuilder();

    private State(Tollkeeper x) {
        this.x = x;
    }

    static String of(Tollkeeper x) {
        State state = new State(x);
        state.tellMinuteRoadsAndText();
        state.tellPlates();
        state.tellReadings();
        state.tellBills();
        state.tellWarrants();
        return state.text.toString();
    }

    private void tell(String name, Object answer) {
        text.append(name).append(' ').append(answer).append('\n');
    }

    private void tellMinuteRoadsAndText() {
        tell("now", x.now());
        for (int gate = 0; gate < GATES; gate++) {
            for (int other = 0; other < GATES; other++) {
                tell("distance", x.distance(gate, other));
            }
        }
        try {
            for (int place = 0; ; place++) {
                tell("charAt", (int) x.charAt(place));
            }
        } catch (NoSuchElementException end) {
            tell("chars", "end");
        }
    }

    private void tellPlates() {
        tell("plates", x.plates());
        for (int plate = 0; plate < x.plates(); plate++) {
            tell("plateAt", x.plateAt(plate));
            for (int minute = 0; minute <= x.now(); minute += minute + 1 >= x.now() - 1 ? 1 : 7) {
                tell("holder", x.holder(plate, minute));
            }
            tell("holder by now", x.holder(plate, x.now()));
            tell("trips", x.trips(plate));
            tell("tripsAnew", x.tripsAnew(plate));
            for (int trip = 0; trip < x.trips(plate); trip++) {
                tell("toll", x.toll(plate, trip));
                tell("driverOf", x.driverOf(plate, trip));
            }
        }
    }

    private void tellReadings() {
        try {
            for (int reading = 0; ; reading++) {
                tell("plateOf", x.plateOf(reading));
                tell("tripOf", x.tripOf(reading));
                for (int plate = 0; plate < x.plates(); plate++) {
                    tell("cost", x.cost(reading, plate));
                }
            }
        } catch (IndexOutOfBoundsException end) {
            tell("readings", "end");
        }
    }

    private void tellBills() {
        for (int driver = 0; driver < DRIVERS; driver++) {
            tell("due", x.due(driver));
            tell("dueAnew", x.dueAnew(driver));
            tell("billed", x.billed(driver));
            tell("paidBack", x.paidBack(driver));
        }
    }

    private void tellWarrants() {
        try {
            for (int warrant = 0; ; warrant++) {
                tell("stale", x.stale(warrant));
            }
        } catch (IndexOutOfBoundsException end) {
            tell("warrants", "end");
        }
    }
}

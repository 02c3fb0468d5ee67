/** Tests of the sentences of 'Trips' and of the promises 24 to 28. */
final class TripSentences {
    private static final int NONE = Tollkeeper.NONE;
    private static final int MOST_READINGS = 60;
    private static final String AS_TOLD = "Throws `IndexOutOfBoundsException` as told";
    private static final String OF_PLATE_OR_TRIP =
        "Throws `IndexOutOfBoundsException` as told, of the plate or the trip";

    private TripSentences() {
    }

    static void test(Sentences s) {
        passings(s);
        beginnings(s);
        tollsAndDrivers(s);
        keeping(s);
        asking(s);
    }

    private static void passings(Sentences s) {
        s.in("Trips");
        String order = "The passings of a plate are its readings, by rising minutes, those of the same minute by"
            + " rising numbers.";
        s.test(order, TripSentences::passingsAreByRisingMinutes);
        s.test(order, TripSentences::passingsOfAMinuteAreByRisingNumbers);
        s.test("The trips of a plate are numbered from 0, as they begin.", TripSentences::tripsAreNumberedAsTheyBegin);
    }

    private static void beginnings(Sentences s) {
        s.in("Trips");
        String begins = "A passing begins a trip if it is the first one, or there is no distance from the gate of the"
            + " passing ahead of it, or more minutes went by between both than twice the distance and the pause"
            + " (30 at first), together, or 4 times these minutes are less than the distance; otherwise it"
            + " belongs to the trip of the passing ahead of it.";
        s.test(begins, TripSentences::theFirstPassingBeginsATrip);
        s.test(begins, TripSentences::withoutADistanceATripBegins);
        s.test(begins, TripSentences::afterMoreMinutesATripBegins);
        s.test(begins, TripSentences::thePauseIs30AtFirst);
        s.test(begins, TripSentences::afterTooFewMinutesATripBegins);
        s.test(begins, TripSentences::otherwiseItBelongsToTheTripAhead);
    }

    private static void tollsAndDrivers(Sentences s) {
        s.in("Trips");
        String toll = "The toll of a trip is the rate of the class of its plate times the sum of the distances from"
            + " passing to passing and 2, together.";
        s.test(toll, TripSentences::tollIsTheRateTimesTheWayAnd2);
        s.test(toll, TripSentences::tollOfTheLongestTrip);
        s.test("The rates are 1, 2, 4 and 8 at first.", TripSentences::ratesAre1And2And4And8);
        String driver = "A trip is of the driver who held the plate in the minute of its first passing; of nobody, if"
            + " that was ahead of its registration.";
        s.test(driver, TripSentences::tripIsOfTheHolderAtItsBeginning);
        s.test(driver, TripSentences::tripAheadOfTheRegistrationIsOfNobody);
    }

    private static void keeping(Sentences s) {
        s.in("Promise 24: trips");
        String kept = "Returns how many trips a plate has, as they are kept: a reading that comes or goes changes what"
            + " begins at it and right behind it.";
        s.test(kept, TripSentences::readingThatComesPartsOrJoins);
        s.test(kept, TripSentences::readingThatGoesPartsOrJoins);
        s.test(kept, TripSentences::tripsAre0To60);
        s.test(AS_TOLD, () -> refusesPlates(1, "trips"));
        s.in("Promise 25: tripsAnew");
        s.test("Returns the same, joined anew from all readings.", TripSentences::tripsAnewAreTheSame);
        s.test(AS_TOLD, () -> refusesPlates(1, "tripsAnew"));
    }

    private static void asking(Sentences s) {
        s.in("Promise 26: tripOf");
        s.test("Returns the trip of a reading.", TripSentences::tripOfTellsEachTrip);
        s.test("Returns its number among the trips of the plate of the reading; NONE if that is of no plate.",
            TripSentences::tripOfTellsNone);
        s.test(AS_TOLD, TripSentences::tripOfRefusesReadings);
        s.in("Promise 27: toll");
        s.test("Returns the toll of a trip.", TripSentences::tollIsToldOfEachTrip);
        s.test(OF_PLATE_OR_TRIP, () -> refusesPlates(2, "toll", 0));
        s.test(OF_PLATE_OR_TRIP, () -> refusesTrips(2, "toll"));
        s.in("Promise 28: driverOf");
        s.test("Returns of whom a trip is.", TripSentences::driverIsToldOfEachTrip);
        s.test("Returns the driver; NONE for nobody.", TripSentences::driverOfTellsNone);
        s.test(OF_PLATE_OR_TRIP, () -> refusesPlates(3, "driverOf", 0));
        s.test(OF_PLATE_OR_TRIP, () -> refusesTrips(0, "driverOf"));
    }

    /** How many trips two passings make that are some minutes apart, at gates of a distance, or at one gate. */
    private static void checkTrips(int distance, int pause, int minutes, int want) {
        Keeper x = Made.onePlate(4000);
        if (distance > 0) {
            Made.buildWay(x, distance);
        }
        x.setPause(pause);
        x.read(0, 100);
        x.read(distance > 0 ? 1 : 0, 100 + minutes);
        x.answers(want, "trips", 0);
        x.answers(want, "tripsAnew", 0);
        x.answers(want - 1, "tripOf", 1);
    }

    private static void checkTripsOfReadings(Keeper x, int... want) {
        for (int reading = 0; reading < want.length; reading++) {
            x.answers(want[reading], "tripOf", reading);
        }
    }

    /** Plates beyond the ten that there are, for each of which the call answers the same. */
    private static void refusesPlates(int want, String name, int... others) {
        Keeper none = new Keeper();
        Made.reading(none, 0, 0, Made.A);
        none.noIndex(name, Made.withFirst(0, others));
        Keeper x = new Keeper();
        for (int plate = 0; plate < 10; plate++) {
            Made.plate(x, 3, 0, plate);
            x.read(0, 0);
        }
        for (int plate : Made.beyond(0, 9)) {
            x.noIndex(name, Made.withFirst(plate, others));
        }
        x.answers(want, name, Made.withFirst(0, others));
        x.answers(want, name, Made.withFirst(9, others));
    }

    /** Trips beyond none, one and sixty, for each of which the call answers the same. */
    private static void refusesTrips(int want, String name) {
        Keeper none = Made.onePlate(2000);
        none.noIndex(name, 0, 0);
        none.noIndex(name, 0, NONE);
        Keeper one = Made.onePlate(0);
        one.read(0, 0);
        for (int trip : Made.beyond(0, 0)) {
            one.noIndex(name, 0, trip);
        }
        one.answers(want, name, 0, 0);
        Keeper sixty = sixtyTrips();
        for (int trip : Made.beyond(0, 59)) {
            sixty.noIndex(name, 0, trip);
        }
        sixty.answers(want, name, 0, 0);
        sixty.answers(want, name, 0, 59);
    }

    private static Keeper sixtyTrips() {
        Keeper x = Made.onePlate(2000);
        for (int reading = 0; reading < MOST_READINGS; reading++) {
            x.read(0, 31 * (59 - reading));
        }
        return x;
    }

    // ---- passings

    private static void passingsAreByRisingMinutes() {
        Keeper x = Made.onePlate(2000);
        x.warrant(0, 0, 1);
        int[] minutes = {1000, 2000, 0, 999, 1001, 1, 1999};
        int[] sorted = {0, 1, 999, 1000, 1001, 1999, 2000};
        for (int minute : minutes) {
            x.read(0, minute);
        }
        for (int place = 0; place < sorted.length; place++) {
            x.answers(sorted[place], "ask", 0, place);
        }
        checkTripsOfReadings(x, 1, 2, 0, 1, 1, 0, 2);
    }

    private static void passingsOfAMinuteAreByRisingNumbers() {
        Keeper x = Made.onePlate(10);
        x.warrant(0, 0, 0);
        for (int gate : new int[] {5, 7, 0, 3}) {
            x.read(gate, 10);
        }
        x.read(6, 9);
        // They keep to their numbers when they come back.
        x.correct(1, NONE);
        x.correct(0, NONE);
        x.uncorrect(1);
        x.uncorrect(0);
        int[] want = {600009, 500010, 700010, 10, 300010};
        for (int place = 0; place < want.length; place++) {
            x.answers(want[place], "ask", 0, place);
        }
        checkTripsOfReadings(x, 1, 2, 3, 4, 0);
    }

    private static void tripsAreNumberedAsTheyBegin() {
        Keeper x = Made.oneRoadAndPlate();
        x.read(0, 1000);
        x.read(1, 1020);
        x.read(2, 500);
        x.read(0, 0);
        checkTripsOfReadings(x, 2, 2, 1, 0);
        x.answers(4, "toll", 0, 0);
        x.answers(4, "toll", 0, 1);
        x.answers(44, "toll", 0, 2);
        x.noIndex("toll", 0, 3);
        x.read(1, 25);
        checkTripsOfReadings(x, 2, 2, 1, 0, 0);
        x.answers(44, "toll", 0, 0);
    }

    // ---- where trips begin

    private static void theFirstPassingBeginsATrip() {
        Keeper x = Made.onePlate(2000);
        x.answers(0, "trips", 0);
        x.read(7, 2000);
        x.answers(1, "trips", 0);
        checkTripsOfReadings(x, 0);
        x.read(7, 1990);
        x.answers(1, "trips", 0);
        checkTripsOfReadings(x, 0, 0);
        x.read(7, 0);
        x.answers(2, "trips", 0);
        checkTripsOfReadings(x, 1, 1, 0);
        x.correct(2, NONE);
        x.correct(1, NONE);
        x.answers(1, "trips", 0);
        checkTripsOfReadings(x, 0, NONE, NONE);
    }

    private static void withoutADistanceATripBegins() {
        for (int minutes : new int[] {0, 1, 10, 30, 31}) {
            Keeper x = Made.oneRoadAndPlate();
            x.read(0, 100);
            x.read(3, 100 + minutes);
            x.answers(2, "trips", 0);
            x.setPause(500);
            x.answers(2, "trips", 0);
        }
        Keeper x = Made.oneRoadAndPlate();
        x.read(0, 100);
        x.read(2, 120);
        x.answers(1, "trips", 0);
        x.road(1, 2, 0);
        x.answers(2, "trips", 0);
        x.answers(2, "tripsAnew", 0);
    }

    private static void afterMoreMinutesATripBegins() {
        int[] distances = {0, 1, 20, 200, 201, 1400};
        int[] pauses = {0, 1, 30, 500};
        for (int distance : distances) {
            for (int pause : pauses) {
                int most = 2 * distance + pause;
                checkTrips(distance, pause, most, 1);
                checkTrips(distance, pause, most + 1, 2);
            }
        }
    }

    private static void thePauseIs30AtFirst() {
        Keeper x = Made.oneRoadAndPlate();
        x.read(0, 100);
        x.read(1, 170);
        x.answers(1, "trips", 0);
        Keeper later = Made.oneRoadAndPlate();
        later.read(0, 100);
        later.read(1, 171);
        later.answers(2, "trips", 0);
        later.answers(30, "setPause", 31);
        later.answers(1, "trips", 0);
    }

    private static void afterTooFewMinutesATripBegins() {
        int[] distances = {1, 2, 3, 4, 5, 8, 9, 199, 200, 201, 1400};
        for (int distance : distances) {
            for (int pause : new int[] {0, 500}) {
                int fewest = (distance + 3) / 4;
                checkTrips(distance, pause, fewest, 1);
                checkTrips(distance, pause, fewest - 1, 2);
            }
        }
        checkTrips(0, 0, 0, 1);
    }

    private static void otherwiseItBelongsToTheTripAhead() {
        Keeper x = Made.oneRoadAndPlate();
        int[] gates = {0, 0, 1, 1, 2, 0, 2, 2};
        int[] minutes = {100, 130, 200, 205, 213, 343, 356, 356};
        for (int i = 0; i < gates.length; i++) {
            x.read(gates[i], minutes[i]);
            x.answers(1, "trips", 0);
            x.answers(0, "tripOf", i);
        }
        x.read(2, 387);
        x.answers(2, "trips", 0);
        x.read(2, 417);
        checkTripsOfReadings(x, 0, 0, 0, 0, 0, 0, 0, 0, 1, 1);
    }

    // ---- tolls and drivers

    private static void tollIsTheRateTimesTheWayAnd2() {
        for (int its = 0; its < 4; its++) {
            int rate = 1 << its;
            Keeper x = new Keeper();
            Made.plate(x, 0, its, Made.A);
            x.pass(2000);
            x.road(0, 1, 20);
            x.road(1, 2, 30);
            x.read(0, 100);
            x.answers(rate * 2, "toll", 0, 0);
            x.read(0, 100);
            x.answers(rate * 2, "toll", 0, 0);
            x.read(1, 120);
            x.answers(rate * 22, "toll", 0, 0);
            // Back again: the way counts, not how far the last gate is from the first.
            x.read(0, 140);
            x.answers(rate * 42, "toll", 0, 0);
            x.read(2, 160);
            x.answers(rate * 92, "toll", 0, 0);
            x.read(2, 1000);
            x.answers(rate * 92, "toll", 0, 0);
            x.answers(rate * 2, "toll", 0, 1);
        }
    }

    private static void tollOfTheLongestTrip() {
        Keeper x = new Keeper();
        Made.plate(x, 0, 3, Made.A);
        Made.passTo(x, Made.LAST_MINUTE);
        Made.buildWay(x, 1400);
        x.setRate(3, 50);
        for (int reading = 0; reading < MOST_READINGS; reading++) {
            x.read(reading % 2, 800 * reading);
        }
        x.answers(1, "trips", 0);
        x.answers(50 * (59 * 1400 + 2), "toll", 0, 0);
        x.setRate(3, 0);
        x.answers(0, "toll", 0, 0);
    }

    private static void ratesAre1And2And4And8() {
        int[] rates = {1, 2, 4, 8};
        Keeper x = new Keeper();
        for (int its = 0; its < rates.length; its++) {
            Made.plate(x, 0, its, its);
            x.read(0, 0);
            x.answers(rates[its] * 2, "toll", its, 0);
        }
        for (int its = 0; its < rates.length; its++) {
            x.answers(rates[its], "setRate", its, 0);
        }
    }

    private static void tripIsOfTheHolderAtItsBeginning() {
        Keeper x = Made.onePlate(1000);
        x.sell(0, 5);
        x.pass(500);
        x.sell(0, 3);
        x.pass(500);
        x.setPause(0);
        int[] minutes = {0, 999, 1000, 1499, 1500, 2000};
        int[] drivers = {0, 0, 5, 5, 3, 3};
        for (int i = 0; i < minutes.length; i++) {
            x.read(0, minutes[i]);
            x.answers(drivers[i], "driverOf", 0, i);
        }
        // A trip stays its driver's when the plate is sold while it goes on.
        x.setPause(1);
        x.answers(4, "trips", 0);
        x.answers(0, "driverOf", 0, 1);
        x.answers(5, "driverOf", 0, 2);
        x.answers(3, "driverOf", 0, 3);
    }

    private static void tripAheadOfTheRegistrationIsOfNobody() {
        Keeper x = Made.atMinute(100);
        Made.plate(x, 0, 0, Made.A);
        x.pass(100);
        x.setPause(0);
        x.read(0, 0);
        x.read(0, 99);
        x.read(0, 100);
        x.answers(NONE, "driverOf", 0, 0);
        x.answers(NONE, "driverOf", 0, 1);
        x.answers(0, "driverOf", 0, 2);
        x.answers(2, "due", 0);
        x.setPause(1);
        x.answers(2, "trips", 0);
        x.answers(NONE, "driverOf", 0, 1);
        x.answers(0, "due", 0);
        x.answers(0, "dueAnew", 0);
    }

    // ---- trips that are kept

    private static void checkKept(Keeper x, int want) {
        x.answers(want, "trips", 0);
        x.answers(want, "tripsAnew", 0);
    }

    private static void readingThatComesPartsOrJoins() {
        Keeper x = Made.oneRoadAndPlate();
        x.read(0, 500);
        checkKept(x, 1);
        x.read(0, 580);
        checkKept(x, 2);
        // Between both, and near enough to each.
        x.read(1, 540);
        checkKept(x, 1);
        // Between both, without a way to either.
        x.read(7, 550);
        checkKept(x, 3);
        checkTripsOfReadings(x, 0, 2, 0, 1);
        // Ahead of all, far off, and then near.
        x.read(0, 0);
        checkKept(x, 4);
        x.read(0, 490);
        checkKept(x, 4);
        checkTripsOfReadings(x, 1, 3, 1, 2, 0, 1);
        // Behind all, near, and then far off.
        x.read(1, 600);
        checkKept(x, 4);
        x.read(1, 2000);
        checkKept(x, 5);
        checkTripsOfReadings(x, 1, 3, 1, 2, 0, 1, 3, 4);
    }

    private static void readingThatGoesPartsOrJoins() {
        Keeper x = Made.oneRoadAndPlate();
        int[] gates = {0, 1, 0, 7, 0};
        int[] minutes = {100, 140, 180, 190, 200};
        for (int i = 0; i < gates.length; i++) {
            x.read(gates[i], minutes[i]);
        }
        checkKept(x, 3);
        x.correct(3, NONE);
        checkKept(x, 1);
        x.correct(1, NONE);
        checkKept(x, 2);
        checkTripsOfReadings(x, 0, NONE, 1, NONE, 1);
        x.correct(0, NONE);
        checkKept(x, 1);
        checkTripsOfReadings(x, NONE, NONE, 0, NONE, 0);
        x.correct(4, NONE);
        checkKept(x, 1);
        x.correct(2, NONE);
        checkKept(x, 0);
        x.uncorrect(3);
        checkKept(x, 1);
        checkTripsOfReadings(x, NONE, NONE, NONE, 0, NONE);
    }

    private static void tripsAre0To60() {
        Keeper none = Made.onePlate(0);
        checkKept(none, 0);
        Keeper x = sixtyTrips();
        checkKept(x, 60);
        x.setPause(31);
        checkKept(x, 1);
        x.correct(30, NONE);
        checkKept(x, 2);
    }

    private static void checkTripsOfTwo(Keeper x, int... want) {
        for (int plate = 0; plate < want.length; plate++) {
            x.answers(want[plate], "tripsAnew", plate);
            x.answers(want[plate], "trips", plate);
        }
    }

    private static void tripsAnewAreTheSame() {
        Keeper x = Made.onePlate(2000);
        Made.plate(x, 1, 0, Made.B);
        x.answers(0, "tripsAnew", 0);
        x.answers(0, "tripsAnew", 1);
        Made.reading(x, 0, 100, Made.A);
        x.read(1, 50);
        Made.reading(x, 0, 90, Made.B);
        checkTripsOfTwo(x, 2, 1);
        x.correct(1, 1);
        checkTripsOfTwo(x, 1, 2);
        x.uncorrect(1);
        checkTripsOfTwo(x, 2, 1);
        Keeper full = sixtyTrips();
        full.answers(60, "tripsAnew", 0);
    }

    // ---- what trips are asked for

    private static void tripOfTellsEachTrip() {
        Keeper x = sixtyTrips();
        for (int reading = 0; reading < MOST_READINGS; reading++) {
            x.answers(59 - reading, "tripOf", reading);
        }
        x.setPause(31);
        x.answers(0, "tripOf", 0);
        x.answers(0, "tripOf", 59);
    }

    private static void tripOfTellsNone() {
        Keeper x = Made.onePlate(2000);
        Made.plate(x, 0, 0, Made.B);
        Made.reading(x, 0, 0, Made.C);
        Made.reading(x, 0, 0, Made.A);
        x.read(0, 1000);
        Made.reading(x, 0, 1000, Made.B);
        checkTripsOfReadings(x, NONE, 0, 1, 0);
        x.correct(1, NONE);
        checkTripsOfReadings(x, NONE, NONE, 0, 0);
        x.correct(0, 1);
        checkTripsOfReadings(x, 0, NONE, 0, 1);
    }

    private static void tripOfRefusesReadings() {
        Keeper none = Made.onePlate(0);
        none.noIndex("tripOf", 0);
        Keeper x = sixtyTrips();
        for (int reading : Made.beyond(0, 59)) {
            x.noIndex("tripOf", reading);
        }
        x.answers(59, "tripOf", 0);
        x.answers(0, "tripOf", 59);
    }

    private static void tollIsToldOfEachTrip() {
        Keeper x = Made.oneRoadAndPlate();
        x.read(0, 0);
        x.read(1, 500);
        x.read(2, 520);
        x.read(0, 1000);
        x.read(2, 1050);
        x.read(1, 1100);
        x.answers(2 * 2, "toll", 0, 0);
        x.answers(2 * 32, "toll", 0, 1);
        x.answers(2 * 82, "toll", 0, 2);
        Keeper sixty = sixtyTrips();
        sixty.answers(2, "toll", 0, 0);
        sixty.answers(2, "toll", 0, 59);
    }

    private static void driverIsToldOfEachTrip() {
        Keeper x = Made.onePlate(0);
        for (int driver = 0; driver < 6; driver++) {
            x.sell(0, driver);
            x.read(0, 100 * driver);
            x.pass(100);
        }
        for (int trip = 0; trip < 6; trip++) {
            x.answers(trip, "driverOf", 0, trip);
        }
    }

    private static void driverOfTellsNone() {
        Keeper x = Made.atMinute(1000);
        Made.plate(x, 5, 0, Made.A);
        x.read(0, 1000);
        x.read(0, 0);
        x.read(0, 900);
        x.answers(NONE, "driverOf", 0, 0);
        x.answers(NONE, "driverOf", 0, 1);
        x.answers(5, "driverOf", 0, 2);
    }
}

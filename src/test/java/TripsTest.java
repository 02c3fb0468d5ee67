/** Promises 24 to 28. */
public final class TripsTest {
    private static final int[] NOT_ZERO = {-1, 1, Integer.MIN_VALUE, Integer.MAX_VALUE};

    public static void main(String[] args) {
        slowestOfOneTrip();
        fastestOfOneTrip();
        tripsPartWithoutAWay();
        tripsGoByRisingMinutes();
        sameMinuteGoesByNumbers();
        readingComesBetween();
        tripsFarBehindStay();
        sixtyPassingsOfOnePlate();
        readingGoes();
        tripsFollowRoadsAndPause();
        tripsFollowSignsThatAreAlike();
        tollsGoByWayAndClass();
        tollOfTheLongestTrip();
        driverIsTheHolderAtTheBeginning();
        tripsRefuse();
        Check.end();
    }

    /** The trips of the plate A that passes 0 in the minute 100 and another gate some minutes later. */
    private static int tripsOf(int length, int minutes, int pause) {
        Keeper x = Made.oneRoadAndPlate();
        x.setPause(pause);
        x.road(0, 1, length);
        x.read(0, 100);
        x.read(1, 100 + minutes);
        Check.due("tripsAnew", x.tripsAnew(0), x.trips(0));
        return x.trips(0);
    }

    private static void slowestOfOneTrip() {
        Check.due("20 km in 70 minutes", tripsOf(20, 70, 30), 1);
        Check.due("20 km in 71 minutes", tripsOf(20, 71, 30), 2);
        Check.due("20 km in 40 minutes, no pause", tripsOf(20, 40, 0), 1);
        Check.due("20 km in 41 minutes, no pause", tripsOf(20, 41, 0), 2);
        Check.due("20 km in 540 minutes, the longest pause", tripsOf(20, 540, 500), 1);
        Check.due("20 km in 541 minutes, the longest pause", tripsOf(20, 541, 500), 2);
        Keeper x = Made.oneRoadAndPlate();
        x.read(0, 100);
        x.read(0, 130);
        Check.due("30 minutes at one gate", x.trips(0), 1);
        x.read(0, 161);
        Check.due("31 minutes at one gate", x.trips(0), 2);
    }

    private static void fastestOfOneTrip() {
        Check.due("20 km in 5 minutes", tripsOf(20, 5, 30), 1);
        Check.due("21 km in 5 minutes", tripsOf(21, 5, 30), 2);
        Check.due("19 km in 5 minutes", tripsOf(19, 5, 30), 1);
        Check.due("20 km in 4 minutes", tripsOf(20, 4, 30), 2);
        Check.due("1 km in 0 minutes", tripsOf(1, 0, 30), 2);
        Keeper x = Made.oneRoadAndPlate();
        x.read(0, 100);
        x.read(0, 100);
        Check.due("one gate in one minute", x.trips(0), 1);
        Check.due("its toll", x.toll(0, 0), 4);
    }

    private static void tripsPartWithoutAWay() {
        Keeper x = Made.oneRoadAndPlate();
        x.read(0, 100);
        x.read(5, 110);
        x.read(5, 120);
        Check.due("gates without a way", x.trips(0), 2);
        Check.due("the last one's trip", x.tripOf(2), 1);
    }

    private static void tripsGoByRisingMinutes() {
        Keeper x = Made.oneRoadAndPlate();
        x.read(2, 500);
        x.read(0, 100);
        x.read(1, 130);
        x.read(2, 1000);
        Check.due("trips", x.trips(0), 3);
        Check.due("trip of the one at 500", x.tripOf(0), 1);
        Check.due("trip of the one at 100", x.tripOf(1), 0);
        Check.due("trip of the one at 130", x.tripOf(2), 0);
        Check.due("trip of the one at 1000", x.tripOf(3), 2);
        Check.due("toll of the first", x.toll(0, 0), 2 * (20 + 2));
        Check.due("toll of the second", x.toll(0, 1), 4);
    }

    private static void sameMinuteGoesByNumbers() {
        Keeper x = Made.oneRoadAndPlate();
        x.read(0, 100);
        x.read(2, 200);
        x.read(0, 200);
        x.read(2, 100);
        x.warrant(0, 0, 0);
        int[] want = {100, 200100, 200200, 200};
        for (int place = 0; place < want.length; place++) {
            Check.due("passing " + place, x.ask(0, place), want[place]);
        }
        Keeper y = Made.oneRoadAndPlate();
        y.read(0, 100);
        y.read(2, 100);
        y.correct(0, Tollkeeper.NONE);
        y.uncorrect(0);
        y.warrant(0, 0, 0);
        Check.due("the lower number comes first when it comes back", y.ask(0, 0), 100);
        Check.due("the higher one behind it", y.ask(0, 1), 200100);
    }

    private static void readingComesBetween() {
        Keeper x = Made.oneRoadAndPlate();
        x.read(0, 100);
        x.read(0, 180);
        Check.due("two trips", x.trips(0), 2);
        Check.due("trip of the later one", x.tripOf(1), 1);
        x.read(1, 140);
        Check.due("one by a passing between", x.trips(0), 1);
        Check.due("trip of the later one then", x.tripOf(1), 0);
        Check.due("its toll", x.toll(0, 0), 2 * (40 + 2));
        x.read(7, 150);
        Check.due("three by a passing without a way", x.trips(0), 3);
        Check.due("anew", x.tripsAnew(0), 3);
        x.read(0, 50);
        Check.due("one more ahead of all", x.trips(0), 4);
        int[] want = {1, 3, 1, 2, 0};
        for (int reading = 0; reading < want.length; reading++) {
            Check.due("trip of " + reading, x.tripOf(reading), want[reading]);
        }
    }

    private static void tripsFarBehindStay() {
        Keeper x = Made.oneRoadAndPlate();
        for (int minute : new int[] {300, 310, 800, 810, 900, 910, 920}) {
            x.read(0, minute);
        }
        x.read(1, 100);
        x.read(1, 850);
        int[] want = {1, 1, 2, 2, 2, 2, 2, 0, 2};
        for (int reading = 0; reading < want.length; reading++) {
            Check.due("trip of " + reading, x.tripOf(reading), want[reading]);
        }
        x.correct(7, Tollkeeper.NONE);
        x.correct(8, Tollkeeper.NONE);
        int[] then = {0, 0, 1, 1, 2, 2, 2, Tollkeeper.NONE, Tollkeeper.NONE};
        for (int reading = 0; reading < then.length; reading++) {
            Check.due("trip of " + reading + " then", x.tripOf(reading), then[reading]);
        }
    }

    private static void sixtyPassingsOfOnePlate() {
        Keeper x = Made.oneRoadAndPlate();
        for (int i = 59; i >= 0; i--) {
            x.read(0, 31 * i);
        }
        Check.due("sixty trips", x.trips(0), 60);
        Check.due("anew", x.tripsAnew(0), 60);
        Check.due("trip of the first reading", x.tripOf(0), 59);
        Check.due("toll of the last trip", x.toll(0, 59), 4);
        Check.noIndex(x, "toll of a sixty-first trip", () -> x.toll(0, 60));
        Check.noIndex(x, "driver of a sixty-first trip", () -> x.driverOf(0, 60));
        x.warrant(0, 0, 34);
        Check.due("the last passing", x.ask(0, 59), 31 * 59);
        Check.noElement(x, "one behind it", () -> x.ask(0, 60));
        x.setPause(31);
        Check.due("one trip", x.trips(0), 1);
        x.correct(30, Tollkeeper.NONE);
        Check.due("two trips", x.trips(0), 2);
        Check.due("stale answers", x.stale(0), 1);
    }

    private static void readingGoes() {
        Keeper x = Made.oneRoadAndPlate();
        x.read(0, 100);
        x.read(1, 140);
        x.read(0, 180);
        Check.due("one trip", x.trips(0), 1);
        x.correct(1, Tollkeeper.NONE);
        Check.due("two without the middle", x.trips(0), 2);
        Check.due("anew", x.tripsAnew(0), 2);
        Check.due("trip of the last", x.tripOf(2), 1);
        Check.due("due", x.due(0), 8);
        x.correct(0, Tollkeeper.NONE);
        Check.due("one without the first", x.trips(0), 1);
        Check.due("trip of the last then", x.tripOf(2), 0);
        x.uncorrect(1);
        Check.due("the middle is back", x.trips(0), 1);
        x.correct(2, Tollkeeper.NONE);
        Check.due("the last is gone", x.toll(0, 0), 4);
        x.correct(1, Tollkeeper.NONE);
        Check.due("all are gone", x.trips(0), 0);
        Check.due("anew none", x.tripsAnew(0), 0);
    }

    private static void tripsFollowRoadsAndPause() {
        Keeper x = Made.oneRoadAndPlate();
        x.read(0, 100);
        x.read(2, 250);
        Check.due("2 * 50 + 30 < 150", x.trips(0), 2);
        x.setPause(50);
        Check.due("2 * 50 + 50 = 150", x.trips(0), 1);
        Check.due("anew", x.tripsAnew(0), 1);
        x.setPause(49);
        Check.due("2 * 50 + 49 < 150", x.trips(0), 2);
        x.road(0, 1, 21);
        Check.due("2 * 51 + 49 > 150", x.trips(0), 1);
        Check.due("its toll", x.toll(0, 0), 2 * (51 + 2));
        x.road(0, 1, 0);
        Check.due("no way", x.trips(0), 2);
        Check.due("anew", x.tripsAnew(0), 2);
    }

    private static void tripsFollowSignsThatAreAlike() {
        Keeper x = Made.oneRoadAndPlate();
        Made.plate(x, 1, 0, Made.B);
        Made.reading(x, 0, 100, Made.A);
        Made.reading(x, 1, 130, Made.C);
        Made.reading(x, 0, 160, Made.A);
        Check.due("trips of A", x.trips(0), 2);
        x.alike(Made.C, Made.B);
        Check.due("trips of B", x.trips(1), 1);
        x.alike(Made.C, Made.A);
        Check.due("trips of B then", x.trips(1), 0);
        Check.due("trips of A then", x.trips(0), 1);
        Check.due("anew", x.tripsAnew(0), 1);
        Check.due("toll", x.toll(0, 0), 2 * (40 + 2));
        x.alike(Made.A, Made.C);
        Check.due("trips of A at last", x.trips(0), 2);
        Check.due("trips of B at last", x.trips(1), 1);
    }

    private static void tollsGoByWayAndClass() {
        for (int its = 0; its < 4; its++) {
            Keeper x = new Keeper();
            Made.plate(x, 3, its, Made.CAR, Made.A);
            x.pass(1000);
            x.road(0, 1, 10);
            x.road(1, 2, 15);
            x.read(0, 100);
            x.read(2, 130);
            x.read(1, 150);
            Check.due("toll of class " + its, x.toll(0, 0), (1 << its) * (25 + 15 + 2));
            x.setRate(its, 50);
            Check.due("toll by a new rate", x.toll(0, 0), 50 * 42);
            x.setRate((its + 1) % 4, 33);
            Check.due("toll by another class's rate", x.due(3), 50 * 42);
            x.setRate(its, 0);
            Check.due("toll by no rate", x.toll(0, 0), 0);
        }
    }

    private static void tollOfTheLongestTrip() {
        Keeper x = new Keeper();
        Made.plate(x, 0, 3, Made.A);
        for (int i = 0; i < 25; i++) {
            x.pass(2000);
        }
        for (int gate = 0; gate < 7; gate++) {
            x.road(gate, gate + 1, 200);
        }
        x.setRate(3, 50);
        for (int i = 0; i < 60; i++) {
            x.read(i % 2 * 7, 800 * i);
        }
        Check.due("trips", x.trips(0), 1);
        Check.due("toll", x.toll(0, 0), 50 * (59 * 1400 + 2));
        x.settle();
        Check.due("billed", x.billed(0), 50L * (59 * 1400 + 2));
        x.setRate(3, 0);
        Check.due("paid back", x.settle(), 50 * (59 * 1400 + 2));
    }

    private static void driverIsTheHolderAtTheBeginning() {
        Keeper x = new Keeper();
        x.pass(100);
        Made.plate(x, 2, 0, Made.A);
        x.pass(20);
        x.sell(0, 3);
        x.pass(500);
        x.read(0, 119);
        x.read(0, 120);
        x.read(0, 300);
        Check.due("who held it at the beginning", x.driverOf(0, 0), 2);
        Check.due("who held it later", x.driverOf(0, 1), 3);
        x.read(0, 99);
        Check.due("ahead of the registration", x.driverOf(0, 0), Tollkeeper.NONE);
        Check.due("nothing is due for that", x.due(2), 0);
        x.correct(3, Tollkeeper.NONE);
        x.correct(0, Tollkeeper.NONE);
        Check.due("in the minute of the sale", x.driverOf(0, 0), 3);
        x.read(0, 100);
        Check.due("in the minute of the registration", x.driverOf(0, 0), 2);
    }

    private static void tripsRefuse() {
        Keeper x = new Keeper();
        Check.noIndex(x, "tripOf of no reading", () -> x.tripOf(0));
        Made.plate(x, 0, 0, Made.A);
        Check.noIndex(x, "toll of no trip", () -> x.toll(0, 0));
        Check.noIndex(x, "driver of no trip", () -> x.driverOf(0, 0));
        x.read(0, 0);
        for (int number : NOT_ZERO) {
            Check.noIndex(x, "trips(" + number + ")", () -> x.trips(number));
            Check.noIndex(x, "tripsAnew(" + number + ")", () -> x.tripsAnew(number));
            Check.noIndex(x, "tripOf(" + number + ")", () -> x.tripOf(number));
            Check.noIndex(x, "toll(" + number + ", 0)", () -> x.toll(number, 0));
            Check.noIndex(x, "toll(0, " + number + ")", () -> x.toll(0, number));
            Check.noIndex(x, "driverOf(" + number + ", 0)", () -> x.driverOf(number, 0));
            Check.noIndex(x, "driverOf(0, " + number + ")", () -> x.driverOf(0, number));
        }
    }
}

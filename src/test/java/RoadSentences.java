/** Tests of the sentences of 'Gates and roads' and of the promises 1 to 7. */
final class RoadSentences {
    private static final int NONE = Tollkeeper.NONE;
    private static final int GATES = 8;

    private RoadSentences() {
    }

    static void test(Sentences s) {
        gatesAndRoads(s);
        newObject(s);
        minutes(s);
        roads(s);
        pauseAndRates(s);
    }

    private static void gatesAndRoads(Sentences s) {
        s.in("Gates and roads");
        s.test("There are the gates 0 to 7.", RoadSentences::gatesAre0To7);
        String road = "Two unlike gates can have a road, some kilometres long; none have one at first.";
        s.test(road, RoadSentences::everyTwoGatesCanHaveARoad);
        s.test(road, RoadSentences::noGateHasARoadToItself);
        String distance = "The distance of two gates is the least sum of the lengths of roads by which one"
            + " comes from the one to the other; 0 from a gate to itself; there may be none.";
        s.test(distance, RoadSentences::distanceIsTheLeastSum);
        s.test(distance, RoadSentences::distanceToItselfIs0);
        s.test(distance, RoadSentences::thereMayBeNoDistance);
    }

    private static void newObject(Sentences s) {
        s.in("Promise 1: A new object");
        s.test("Begins in the minute 0, without roads, plates and readings.", RoadSentences::newObjectIsEmpty);
    }

    private static void minutes(Sentences s) {
        s.in("Promise 2: pass");
        s.test("Lets minutes pass.", RoadSentences::minutesPass);
        s.test("- `minutes`: 1 to 2000", RoadSentences::passTakes1To2000);
        s.test("Returns the minute then.", RoadSentences::passTellsTheMinuteThen);
        s.test("Throws `IllegalArgumentException` if minutes is out of range", RoadSentences::passRefusesMinutes);
        s.test("Throws `IllegalStateException` if it would be above 50000", RoadSentences::passEndsAt50000);
        s.in("Promise 3: now");
        s.test("Returns the minute of now.", RoadSentences::nowIsTheMinute);
    }

    private static void roads(Sentences s) {
        s.in("Promise 4: road");
        s.test("Sets the length of the road of two gates.", RoadSentences::roadSetsOneLength);
        s.test("- `length`: 0 for none, or 1 to 200", RoadSentences::roadTakes0To200);
        s.test("Returns the length before; 0 for none.", RoadSentences::roadTellsTheLengthBefore);
        s.test("Throws `IndexOutOfBoundsException` as told, of either gate", RoadSentences::roadRefusesGates);
        s.test("Throws `IllegalArgumentException` if both are the same, or length is out of range",
            RoadSentences::roadRefusesTheSameGate);
        s.test("Throws `IllegalArgumentException` if both are the same, or length is out of range",
            RoadSentences::roadRefusesLengths);
        s.in("Promise 5: distance");
        s.test("Returns the distance of two gates, found by going on from the nearest gate first.",
            RoadSentences::distanceGoesOnFromTheNearest);
        s.test("Returns the distance; NONE if there is none.", RoadSentences::distanceIsNone);
        s.test("Throws `IndexOutOfBoundsException` as told, of either", RoadSentences::distanceRefusesGates);
    }

    private static void pauseAndRates(Sentences s) {
        s.in("Promise 6: setPause");
        s.test("Sets the pause.", RoadSentences::pauseIsSet);
        s.test("- `minutes`: 0 to 500", RoadSentences::pauseTakes0To500);
        s.test("Returns the pause before.", RoadSentences::setPauseTellsThePauseBefore);
        s.test("Throws `IllegalArgumentException` if minutes is out of range", RoadSentences::setPauseRefuses);
        s.in("Promise 7: setRate");
        s.test("Sets the rate of a class.", RoadSentences::rateOfOneClassIsSet);
        s.test("- `rate`: 0 to 50", RoadSentences::rateTakes0To50);
        s.test("Returns the rate before.", RoadSentences::setRateTellsTheRateBefore);
        String refused = "Throws `IllegalArgumentException` if there is no such class, or rate is out of range";
        s.test(refused, RoadSentences::setRateRefusesClasses);
        s.test(refused, RoadSentences::setRateRefusesRates);
    }

    // ---- gates and roads

    private static void gatesAre0To7() {
        Keeper x = new Keeper();
        x.spell(Made.A);
        for (int gate = 0; gate < GATES; gate++) {
            x.answers(gate, "read", gate, 0);
            x.answers(0, "road", gate, (gate + 1) % GATES, 5);
            x.answers(5, "distance", gate, (gate + 1) % GATES);
        }
        for (int gate : Made.beyond(0, 7)) {
            x.noIndex("read", gate, 0);
            x.noIndex("road", gate, 0, 5);
            x.noIndex("distance", 0, gate);
        }
    }

    private static int ownLength(int gate, int other) {
        return 1 + GATES * gate + other;
    }

    private static void everyTwoGatesCanHaveARoad() {
        Keeper x = new Keeper();
        for (int gate = 0; gate < GATES; gate++) {
            for (int other = gate + 1; other < GATES; other++) {
                x.answers(0, "road", gate, other, ownLength(gate, other));
            }
        }
        for (int gate = 0; gate < GATES; gate++) {
            for (int other = gate + 1; other < GATES; other++) {
                x.answers(ownLength(gate, other), "road", other, gate, 0);
            }
        }
    }

    private static void noGateHasARoadToItself() {
        Keeper x = new Keeper();
        for (int gate = 0; gate < GATES; gate++) {
            x.noArgument("road", gate, gate, 1);
        }
    }

    private static void distanceIsTheLeastSum() {
        Keeper x = new Keeper();
        x.road(0, 1, 60);
        x.road(1, 2, 60);
        x.road(0, 2, 121);
        x.answers(120, "distance", 0, 2);
        x.road(0, 2, 120);
        x.answers(120, "distance", 2, 0);
        x.road(0, 2, 119);
        x.answers(119, "distance", 0, 2);
        x.answers(60, "distance", 1, 0);
        Keeper longest = new Keeper();
        Made.buildWay(longest, 1400);
        longest.answers(1400, "distance", 0, 1);
        longest.answers(1400, "distance", 1, 0);
        longest.answers(1200, "distance", 0, 7);
    }

    private static void distanceToItselfIs0() {
        Keeper x = new Keeper();
        for (int gate = 0; gate < GATES; gate++) {
            x.answers(0, "distance", gate, gate);
        }
        x.road(0, 7, 1);
        x.answers(0, "distance", 0, 0);
        x.answers(0, "distance", 7, 7);
    }

    private static void thereMayBeNoDistance() {
        Keeper x = new Keeper();
        for (int gate = 1; gate < GATES; gate++) {
            x.answers(NONE, "distance", 0, gate);
        }
        x.road(0, 1, 10);
        x.road(2, 3, 10);
        x.answers(NONE, "distance", 1, 2);
        x.answers(NONE, "distance", 3, 0);
        x.road(1, 2, 10);
        x.answers(30, "distance", 3, 0);
        x.road(2, 1, 0);
        x.answers(NONE, "distance", 3, 0);
    }

    // ---- a new object

    private static void newObjectIsEmpty() {
        Keeper x = new Keeper();
        x.answers(0, "now");
        for (int gate = 0; gate < GATES; gate++) {
            for (int other = gate + 1; other < GATES; other++) {
                x.answers(NONE, "distance", gate, other);
                x.answers(0, "road", gate, other, 0);
            }
        }
        x.answers(0, "plates");
        x.noElement("plateAt", 0);
        x.noIndex("trips", 0);
        x.noIndex("plateOf", 0);
        x.spell(Made.A);
        x.noArgument("read", 0, 1);
        x.answers(0, "read", 0, 0);
        x.answers(0, "register", 0, 0);
    }

    // ---- minutes

    private static void minutesPass() {
        Keeper x = Made.onePlate(0);
        x.noArgument("read", 0, 7);
        x.pass(7);
        x.answers(7, "now");
        x.answers(0, "read", 0, 7);
        x.noArgument("read", 0, 8);
        x.pass(1);
        x.answers(8, "now");
        x.answers(1, "read", 0, 8);
    }

    private static void passTakes1To2000() {
        Keeper x = new Keeper();
        x.answers(1, "pass", 1);
        x.answers(2001, "pass", 2000);
        x.noArgument("pass", 0);
        x.noArgument("pass", 2001);
        x.answers(2001, "now");
    }

    private static void passTellsTheMinuteThen() {
        Keeper x = new Keeper();
        x.answers(1999, "pass", 1999);
        x.answers(3999, "pass", 2000);
        x.answers(4000, "pass", 1);
    }

    private static void passRefusesMinutes() {
        for (int minute : new int[] {0, 1, 2000, 48000}) {
            Keeper x = Made.atMinute(minute);
            for (int minutes : Made.beyond(1, 2000)) {
                x.noArgument("pass", minutes);
            }
        }
    }

    private static void passEndsAt50000() {
        Keeper x = Made.atMinute(48001);
        x.noState("pass", 2000);
        x.answers(50000, "pass", 1999);
        x.noState("pass", 1);
        x.noState("pass", 2000);
        x.answers(50000, "now");
        Keeper last = Made.atMinute(48000);
        last.answers(50000, "pass", 2000);
        Keeper oneLeft = Made.atMinute(49999);
        oneLeft.noState("pass", 2);
        oneLeft.answers(50000, "pass", 1);
    }

    private static void nowIsTheMinute() {
        Keeper x = new Keeper();
        x.answers(0, "now");
        x.pass(1);
        x.answers(1, "now");
        x.spell(Made.A);
        x.read(0, 0);
        x.answers(1, "now");
        Made.passTo(x, Made.LAST_MINUTE);
        x.answers(50000, "now");
    }

    // ---- roads

    private static void roadSetsOneLength() {
        Keeper x = new Keeper();
        x.road(3, 5, 40);
        for (int gate = 0; gate < GATES; gate++) {
            for (int other = gate + 1; other < GATES; other++) {
                boolean isIt = gate == 3 && other == 5;
                x.answers(isIt ? 40 : NONE, "distance", gate, other);
                x.answers(isIt ? 40 : NONE, "distance", other, gate);
            }
        }
        x.road(5, 3, 41);
        x.answers(41, "distance", 3, 5);
    }

    private static void roadTakes0To200() {
        Keeper x = new Keeper();
        x.answers(0, "road", 0, 1, 1);
        x.answers(1, "distance", 0, 1);
        x.answers(1, "road", 0, 1, 200);
        x.answers(200, "distance", 0, 1);
        x.noArgument("road", 0, 1, -1);
        x.noArgument("road", 0, 1, 201);
        x.answers(200, "road", 0, 1, 0);
        x.answers(NONE, "distance", 0, 1);
    }

    private static void roadTellsTheLengthBefore() {
        Keeper x = new Keeper();
        x.answers(0, "road", 0, 7, 200);
        x.answers(200, "road", 7, 0, 1);
        x.answers(1, "road", 0, 7, 1);
        x.answers(1, "road", 0, 7, 0);
        x.answers(0, "road", 7, 0, 0);
        x.road(0, 1, 10);
        x.road(1, 2, 10);
        x.answers(0, "road", 0, 2, 100);
        x.answers(100, "road", 0, 2, 100);
    }

    private static void roadRefusesGates() {
        Keeper x = new Keeper();
        x.road(0, 7, 9);
        for (int gate : Made.beyond(0, 7)) {
            x.noIndex("road", gate, 7, 5);
            x.noIndex("road", 0, gate, 5);
            x.noIndex("road", gate, gate, 5);
        }
    }

    private static void roadRefusesTheSameGate() {
        Keeper x = new Keeper();
        for (int gate = 0; gate < GATES; gate++) {
            x.noArgument("road", gate, gate, 0);
            x.noArgument("road", gate, gate, 200);
        }
    }

    private static void roadRefusesLengths() {
        Keeper x = new Keeper();
        x.road(0, 1, 5);
        for (int length : Made.beyond(0, 200)) {
            x.noArgument("road", 0, 1, length);
            x.noArgument("road", 1, 2, length);
        }
        x.answers(5, "road", 0, 1, 0);
    }

    private static void distanceGoesOnFromTheNearest() {
        Keeper x = new Keeper();
        // Each gate is first seen by a long road and then, from the nearest gate, by a shorter way.
        int[] row = {3, 7, 0, 5, 1, 6, 2, 4};
        for (int i = 0; i < GATES; i++) {
            for (int j = i + 1; j < GATES; j++) {
                x.road(row[i], row[j], j == i + 1 ? 1 : 2 * (j - i));
            }
        }
        for (int i = 0; i < GATES; i++) {
            for (int j = 0; j < GATES; j++) {
                x.answers(Math.abs(i - j), "distance", row[i], row[j]);
            }
        }
    }

    private static void distanceIsNone() {
        Keeper x = new Keeper();
        x.answers(NONE, "distance", 0, 7);
        x.road(0, 6, 200);
        x.answers(NONE, "distance", 0, 7);
        x.answers(NONE, "distance", 7, 6);
        x.road(6, 7, 1);
        x.answers(201, "distance", 0, 7);
        x.road(6, 7, 0);
        x.answers(NONE, "distance", 7, 0);
    }

    private static void distanceRefusesGates() {
        Keeper x = new Keeper();
        x.road(0, 7, 9);
        x.answers(9, "distance", 0, 7);
        for (int gate : Made.beyond(0, 7)) {
            x.noIndex("distance", gate, 7);
            x.noIndex("distance", 0, gate);
            x.noIndex("distance", gate, gate);
        }
    }

    // ---- the pause and the rates

    /** How many trips two passings of one gate make that are some minutes apart. */
    private static void checkTripsApart(int pause, int minutes, int want) {
        Keeper x = Made.onePlate(2000);
        x.setPause(pause);
        x.read(0, 0);
        x.read(0, minutes);
        x.answers(want, "trips", 0);
        Keeper setLater = Made.onePlate(2000);
        setLater.read(0, 0);
        setLater.read(0, minutes);
        setLater.setPause(pause);
        setLater.answers(want, "trips", 0);
    }

    private static void pauseIsSet() {
        checkTripsApart(29, 29, 1);
        checkTripsApart(29, 30, 2);
        checkTripsApart(31, 31, 1);
        checkTripsApart(31, 32, 2);
    }

    private static void pauseTakes0To500() {
        checkTripsApart(0, 0, 1);
        checkTripsApart(0, 1, 2);
        checkTripsApart(500, 500, 1);
        checkTripsApart(500, 501, 2);
        Keeper x = new Keeper();
        x.noArgument("setPause", -1);
        x.noArgument("setPause", 501);
    }

    private static void setPauseTellsThePauseBefore() {
        Keeper x = new Keeper();
        x.answers(30, "setPause", 500);
        x.answers(500, "setPause", 0);
        x.answers(0, "setPause", 0);
        x.answers(0, "setPause", 1);
        x.answers(1, "setPause", 30);
    }

    private static void setPauseRefuses() {
        Keeper x = Made.oneRoadAndPlate();
        x.read(0, 0);
        x.read(1, 70);
        for (int minutes : Made.beyond(0, 500)) {
            x.noArgument("setPause", minutes);
        }
        x.answers(30, "setPause", 0);
    }

    private static void rateOfOneClassIsSet() {
        for (int its = 0; its < 4; its++) {
            Keeper x = new Keeper();
            for (int other = 0; other < 4; other++) {
                Made.plate(x, 0, other, other);
                x.read(0, 0);
            }
            x.setRate(its, 9);
            for (int other = 0; other < 4; other++) {
                x.answers(other == its ? 18 : 2 << other, "toll", other, 0);
            }
        }
    }

    private static void rateTakes0To50() {
        for (int its = 0; its < 4; its++) {
            Keeper x = new Keeper();
            Made.plate(x, 0, its, Made.A);
            x.read(0, 0);
            x.setRate(its, 0);
            x.answers(0, "toll", 0, 0);
            x.setRate(its, 50);
            x.answers(100, "toll", 0, 0);
            x.noArgument("setRate", its, -1);
            x.noArgument("setRate", its, 51);
            x.answers(100, "toll", 0, 0);
        }
    }

    private static void setRateTellsTheRateBefore() {
        Keeper x = new Keeper();
        for (int its = 0; its < 4; its++) {
            x.answers(1 << its, "setRate", its, 50 - its);
        }
        for (int its = 0; its < 4; its++) {
            x.answers(50 - its, "setRate", its, 0);
            x.answers(0, "setRate", its, 0);
        }
    }

    private static void setRateRefusesClasses() {
        Keeper x = new Keeper();
        for (int its : Made.beyond(0, 3)) {
            x.noArgument("setRate", its, 1);
            x.noArgument("setRate", its, 51);
        }
    }

    private static void setRateRefusesRates() {
        Keeper x = new Keeper();
        for (int rate : Made.beyond(0, 50)) {
            x.noArgument("setRate", 0, rate);
            x.noArgument("setRate", 3, rate);
        }
    }
}

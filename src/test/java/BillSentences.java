/** Tests of the sentences of 'Bills' and of the promises 29 to 33. */
final class BillSentences {
    private static final int NONE = Tollkeeper.NONE;
    private static final int DRIVERS = 6;
    private static final String AS_TOLD = "Throws `IndexOutOfBoundsException` as told";

    private BillSentences() {
    }

    static void test(Sentences s) {
        bills(s);
        dues(s);
        settling(s);
    }

    private static void bills(Sentences s) {
        s.in("Bills");
        String due = "What is due from a driver is the sum of the tolls of all trips that are of this driver, by now.";
        s.test(due, BillSentences::dueIsTheSumOfAllTolls);
        s.test(due, BillSentences::nothingIsDueWithoutTrips);
        s.test(due, BillSentences::dueIsThatOfNow);
        String settled = "When bills are settled, for each driver the difference of what is due and what was billed is"
            + " billed, or, if it is below 0, paid back; so what was billed, less what was paid back, is what is"
            + " due then.";
        s.test(settled, BillSentences::differenceIsBilled);
        s.test(settled, BillSentences::differenceBelow0IsPaidBack);
        s.test(settled, BillSentences::differencesOf1);
        s.test(settled, BillSentences::noDifferenceChangesNothing);
        s.test(settled, BillSentences::billedLessPaidBackIsDue);
    }

    private static void dues(Sentences s) {
        s.in("Promise 29: due");
        s.test("Returns what is due from a driver, by the trips that are kept.", () -> duesOfSixDrivers("due"));
        s.test("Returns what is due from a driver, by the trips that are kept.", () -> greatestDue("due"));
        s.test(AS_TOLD, () -> refusesDrivers(0, "due"));
        s.in("Promise 30: dueAnew");
        s.test("Returns the same, by trips that are joined anew.", () -> duesOfSixDrivers("dueAnew"));
        s.test("Returns the same, by trips that are joined anew.", () -> greatestDue("dueAnew"));
        s.test("Returns the same, by trips that are joined anew.", BillSentences::dueAnewIsTheSame);
        s.test(AS_TOLD, () -> refusesDrivers(0, "dueAnew"));
    }

    private static void settling(Sentences s) {
        s.in("Promise 31: settle");
        s.test("Settles bills.", BillSentences::settleSettlesForEachDriver);
        s.test("Returns how much is paid back by that, to all drivers together.", BillSentences::settleTellsWhatIsPaidBack);
        s.test("Returns how much is paid back by that, to all drivers together.", BillSentences::settleTells0);
        s.in("Promise 32: billed");
        s.test("Returns how much was billed to a driver.", BillSentences::billedTellsAllThatWasBilled);
        s.test(AS_TOLD, () -> refusesDrivers(2, "billed"));
        s.in("Promise 33: paidBack");
        s.test("Returns how much was paid back to a driver.", BillSentences::paidBackTellsAllThatWasPaidBack);
        s.test(AS_TOLD, () -> refusesDrivers(2, "paidBack"));
    }

    private static void checkDue(Keeper x, int... want) {
        for (int driver = 0; driver < want.length; driver++) {
            x.answers(want[driver], "due", driver);
            x.answers(want[driver], "dueAnew", driver);
        }
    }

    private static void checkBills(Keeper x, int driver, int billed, int paidBack) {
        x.answers(billed, "billed", driver);
        x.answers(paidBack, "paidBack", driver);
    }

    /** Plates of the drivers 0 to 5, of class 0, and a passing of each: 2 are due from each driver. */
    private static Keeper sixDrivers() {
        Keeper x = new Keeper();
        for (int driver = 0; driver < DRIVERS; driver++) {
            Made.plate(x, driver, 0, driver);
            x.read(0, 0);
        }
        return x;
    }

    /** Drivers beyond the six that there are, for each of which the call answers the same. */
    private static void refusesDrivers(int want, String name) {
        Keeper empty = new Keeper();
        empty.noIndex(name, -1);
        empty.noIndex(name, 6);
        Keeper x = sixDrivers();
        x.settle();
        x.setRate(0, 0);
        x.settle();
        for (int driver : Made.beyond(0, 5)) {
            x.noIndex(name, driver);
        }
        x.answers(want, name, 0);
        x.answers(want, name, 5);
    }

    // ---- what is due

    private static void dueIsTheSumOfAllTolls() {
        Keeper x = Made.oneRoadAndPlate();
        x.read(0, 0);
        x.read(1, 20);
        x.read(2, 1000);
        checkDue(x, 2 * 22 + 2 * 2, 0);
        Made.plate(x, 0, 3, Made.B);
        x.read(0, 2000);
        checkDue(x, 48 + 16, 0);
        Made.plate(x, 1, 2, Made.C);
        x.read(0, 2000);
        checkDue(x, 64, 8, 0, 0, 0, 0);
    }

    private static void nothingIsDueWithoutTrips() {
        Keeper x = new Keeper();
        checkDue(x, 0, 0, 0, 0, 0, 0);
        Made.plate(x, 0, 0, Made.A);
        checkDue(x, 0, 0, 0, 0, 0, 0);
        Made.reading(x, 0, 0, Made.B);
        checkDue(x, 0, 0, 0, 0, 0, 0);
        // Trips of nobody are due from nobody.
        Keeper early = Made.atMinute(10);
        Made.plate(early, 0, 0, Made.A);
        early.read(0, 9);
        checkDue(early, 0, 0, 0, 0, 0, 0);
    }

    private static void dueIsThatOfNow() {
        Keeper x = Made.oneRoadAndPlate();
        x.read(0, 1900);
        x.read(1, 1920);
        x.read(0, 2000);
        checkDue(x, 48, 0, 0);
        x.setRate(1, 0);
        checkDue(x, 0, 0, 0);
        x.setRate(1, 50);
        checkDue(x, 24 * 50, 0, 0);
        x.setPause(500);
        checkDue(x, 42 * 50, 0, 0);
        x.sell(0, 2);
        checkDue(x, 42 * 50, 0, 0);
        x.setPause(0);
        checkDue(x, 22 * 50, 0, 2 * 50);
        x.correct(2, NONE);
        checkDue(x, 22 * 50, 0, 0);
        x.road(0, 1, 0);
        checkDue(x, 4 * 50, 0, 0);
    }

    private static void duesOfSixDrivers(String name) {
        Keeper x = sixDrivers();
        for (int driver = 0; driver < DRIVERS; driver++) {
            x.answers(2, name, driver);
        }
        x.sell(0, 5);
        x.answers(0, name, 0);
        x.answers(4, name, 5);
        x.correct(5, NONE);
        x.answers(2, name, 5);
    }

    private static void greatestDue(String name) {
        Keeper x = new Keeper();
        Made.plate(x, 5, 3, Made.A);
        Made.passTo(x, Made.LAST_MINUTE);
        Made.buildWay(x, 1400);
        x.setRate(3, 50);
        x.answers(0, name, 5);
        for (int reading = 0; reading < 60; reading++) {
            x.read(reading % 2, 350 * reading);
        }
        x.answers(50 * (59 * 1400 + 2), name, 5);
        x.setRate(3, 0);
        x.answers(0, name, 5);
    }

    private static void dueAnewIsTheSame() {
        Keeper x = Made.oneRoadAndPlate();
        x.sell(0, 4);
        x.pass(200);
        int[] gates = {0, 1, 2, 0, 1, 5};
        int[] minutes = {1980, 2010, 1990, 2100, 1999, 2000};
        for (int i = 0; i < gates.length; i++) {
            x.read(gates[i], minutes[i]);
            x.answers(x.due(0), "dueAnew", 0);
            x.answers(x.due(4), "dueAnew", 4);
        }
        for (int i = 0; i < gates.length; i++) {
            x.correct(i, NONE);
            x.answers(x.due(0), "dueAnew", 0);
            x.answers(x.due(4), "dueAnew", 4);
        }
        checkDue(x, 0, 0, 0, 0, 0, 0);
    }

    // ---- settling

    private static void differenceIsBilled() {
        Keeper x = Made.oneRoadAndPlate();
        x.read(0, 100);
        checkBills(x, 0, 0, 0);
        x.settle();
        checkBills(x, 0, 4, 0);
        x.read(1, 120);
        checkBills(x, 0, 4, 0);
        x.settle();
        checkBills(x, 0, 44, 0);
    }

    private static void differenceBelow0IsPaidBack() {
        Keeper x = Made.oneRoadAndPlate();
        x.read(0, 100);
        x.read(1, 120);
        x.settle();
        x.correct(1, NONE);
        checkBills(x, 0, 44, 0);
        x.settle();
        checkBills(x, 0, 44, 40);
        x.correct(0, NONE);
        x.settle();
        checkBills(x, 0, 44, 44);
        // What was paid back is billed once more when it is due again.
        x.uncorrect(0);
        x.settle();
        checkBills(x, 0, 48, 44);
    }

    private static void differencesOf1() {
        Keeper x = Made.onePlate(100);
        x.road(0, 1, 20);
        x.read(0, 0);
        x.read(1, 20);
        x.settle();
        checkBills(x, 0, 22, 0);
        x.road(0, 1, 21);
        x.answers(0, "settle");
        checkBills(x, 0, 23, 0);
        x.road(0, 1, 20);
        x.answers(1, "settle");
        checkBills(x, 0, 23, 1);
    }

    private static void noDifferenceChangesNothing() {
        Keeper x = Made.oneRoadAndPlate();
        x.settle();
        checkBills(x, 0, 0, 0);
        x.read(0, 100);
        x.settle();
        x.settle();
        checkBills(x, 0, 4, 0);
        // Another trip of the same toll instead of the billed one.
        x.correct(0, NONE);
        x.read(0, 1000);
        x.settle();
        checkBills(x, 0, 4, 0);
        x.setRate(1, 1);
        x.settle();
        x.settle();
        checkBills(x, 0, 4, 2);
    }

    private static void billedLessPaidBackIsDue() {
        Keeper x = sixDrivers();
        int[][] moves = {{0, 1}, {5, 0}, {1, 5}, {2, NONE}, {3, 4}, {2, 5}, {0, 0}, {5, NONE}, {4, 0}};
        for (int[] move : moves) {
            x.correct(move[0], move[1]);
            x.settle();
            for (int driver = 0; driver < DRIVERS; driver++) {
                x.answers(x.billed(driver) - x.paidBack(driver), "due", driver);
            }
        }
    }

    private static void settleSettlesForEachDriver() {
        Keeper x = sixDrivers();
        x.settle();
        for (int driver = 0; driver < DRIVERS; driver++) {
            checkBills(x, driver, 2, 0);
        }
        x.setRate(0, 0);
        x.settle();
        for (int driver = 0; driver < DRIVERS; driver++) {
            checkBills(x, driver, 2, 2);
        }
    }

    private static void settleTellsWhatIsPaidBack() {
        Keeper x = sixDrivers();
        x.answers(0, "settle");
        x.correct(1, 0);
        x.correct(2, NONE);
        x.correct(5, 0);
        x.setRate(0, 3);
        // 6 are due from the drivers 0, 3 and 4, and nothing from the others, who paid 2 each.
        x.answers(6, "settle");
        checkBills(x, 0, 6, 0);
        checkBills(x, 1, 2, 2);
        checkBills(x, 2, 2, 2);
        checkBills(x, 3, 6, 0);
        checkBills(x, 5, 2, 2);
        x.setRate(0, 1);
        x.answers(12, "settle");
        x.setRate(0, 0);
        x.answers(6, "settle");
        x.answers(0, "settle");
    }

    private static void settleTells0() {
        Keeper x = new Keeper();
        x.answers(0, "settle");
        Made.plate(x, 0, 0, Made.A);
        x.answers(0, "settle");
        x.read(0, 0);
        x.answers(0, "settle");
        x.answers(0, "settle");
    }

    private static void billedTellsAllThatWasBilled() {
        Keeper x = Made.onePlate(0);
        x.answers(0, "billed", 0);
        x.read(0, 0);
        x.answers(0, "billed", 0);
        x.settle();
        x.answers(2, "billed", 0);
        for (int times = 2; times <= 50; times++) {
            x.setRate(0, 0);
            x.settle();
            x.setRate(0, 1);
            x.settle();
            x.answers(2 * times, "billed", 0);
        }
        x.answers(0, "billed", 5);
    }

    private static void paidBackTellsAllThatWasPaidBack() {
        Keeper x = Made.onePlate(0);
        x.answers(0, "paidBack", 0);
        x.read(0, 0);
        x.settle();
        x.answers(0, "paidBack", 0);
        for (int times = 1; times <= 50; times++) {
            x.setRate(0, 0);
            x.answers(2 * (times - 1), "paidBack", 0);
            x.settle();
            x.answers(2 * times, "paidBack", 0);
            x.setRate(0, 1);
            x.settle();
        }
        x.answers(100, "paidBack", 0);
        x.answers(0, "paidBack", 5);
    }
}

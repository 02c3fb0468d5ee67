/** Promises 29 to 33. */
public final class BillsTest {
    public static void main(String[] args) {
        dueAddsUpTrips();
        dueGoesByDrivers();
        settleBills();
        settlePaysBack();
        settleOfSeveralDrivers();
        billsRefuse();
        Check.end();
    }

    private static void checkDue(Keeper x, int driver, int want) {
        Check.due("due(" + driver + ")", x.due(driver), want);
        Check.due("dueAnew(" + driver + ")", x.dueAnew(driver), want);
    }

    private static void checkBills(Keeper x, int driver, long billed, long paidBack) {
        Check.due("billed(" + driver + ")", x.billed(driver), billed);
        Check.due("paidBack(" + driver + ")", x.paidBack(driver), paidBack);
    }

    private static void dueAddsUpTrips() {
        Keeper x = Made.oneRoadAndPlate();
        Made.plate(x, 0, 3, Made.B);
        Made.spell(x, Made.A);
        x.read(0, 100);
        x.read(1, 130);
        x.read(2, 400);
        checkDue(x, 0, 44 + 4);
        Made.reading(x, 1, 2000, Made.B);
        checkDue(x, 0, 44 + 4 + 16);
        x.setRate(1, 1);
        checkDue(x, 0, 22 + 2 + 16);
        for (int driver = 1; driver < 6; driver++) {
            checkDue(x, driver, 0);
        }
    }

    private static void dueGoesByDrivers() {
        Keeper x = Made.oneRoadAndPlate();
        x.sell(0, 5);
        x.pass(100);
        x.read(0, 1990);
        x.read(1, 2020);
        x.read(0, 2100);
        checkDue(x, 0, 44);
        checkDue(x, 5, 4);
        x.correct(0, Tollkeeper.NONE);
        checkDue(x, 0, 0);
        checkDue(x, 5, 4 + 4);
    }

    private static void settleBills() {
        Keeper x = Made.oneRoadAndPlate();
        Check.due("settle of nothing", x.settle(), 0);
        x.read(0, 100);
        checkBills(x, 0, 0, 0);
        Check.due("settle", x.settle(), 0);
        checkBills(x, 0, 4, 0);
        Check.due("settle once more", x.settle(), 0);
        checkBills(x, 0, 4, 0);
        x.read(1, 120);
        x.settle();
        checkBills(x, 0, 44, 0);
        checkBills(x, 1, 0, 0);
    }

    private static void settlePaysBack() {
        Keeper x = Made.oneRoadAndPlate();
        x.read(0, 100);
        x.read(1, 120);
        x.settle();
        x.setRate(1, 1);
        Check.due("settle by half the rate", x.settle(), 22);
        checkBills(x, 0, 44, 22);
        Check.due("settle once more", x.settle(), 0);
        checkBills(x, 0, 44, 22);
        x.setRate(1, 2);
        Check.due("settle by the whole rate", x.settle(), 0);
        checkBills(x, 0, 66, 22);
        x.correct(0, Tollkeeper.NONE);
        x.correct(1, Tollkeeper.NONE);
        Check.due("settle of nothing that is due", x.settle(), 44);
        checkBills(x, 0, 66, 66);
    }

    private static void settleOfSeveralDrivers() {
        Keeper x = new Keeper();
        for (int driver = 0; driver < 6; driver++) {
            Made.plate(x, driver, 0, driver);
            x.read(0, 0);
        }
        Made.reading(x, 0, 0, 5);
        x.settle();
        for (int driver = 0; driver < 6; driver++) {
            checkBills(x, driver, 2, 0);
        }
        x.correct(5, 0);
        x.correct(6, 0);
        x.correct(1, Tollkeeper.NONE);
        x.correct(4, Tollkeeper.NONE);
        Check.due("paid back to three", x.settle(), 6);
        checkBills(x, 0, 2, 0);
        checkBills(x, 1, 2, 2);
        checkBills(x, 4, 2, 2);
        checkBills(x, 5, 2, 2);
        x.uncorrect(1);
        x.correct(0, Tollkeeper.NONE);
        x.correct(5, Tollkeeper.NONE);
        x.correct(6, Tollkeeper.NONE);
        Check.due("paid back to one, billed to one", x.settle(), 2);
        checkBills(x, 0, 2, 2);
        checkBills(x, 1, 4, 2);
    }

    private static void billsRefuse() {
        Keeper x = Made.oneRoadAndPlate();
        x.read(0, 100);
        x.settle();
        for (int driver : new int[] {-1, 6, Integer.MIN_VALUE, Integer.MAX_VALUE}) {
            Check.noIndex(x, "due(" + driver + ")", () -> x.due(driver));
            Check.noIndex(x, "dueAnew(" + driver + ")", () -> x.dueAnew(driver));
            Check.noIndex(x, "billed(" + driver + ")", () -> x.billed(driver));
            Check.noIndex(x, "paidBack(" + driver + ")", () -> x.paidBack(driver));
        }
    }
}

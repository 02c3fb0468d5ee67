/** Promises 14 to 18. */
public final class PlatesTest {
    private static final int[] NO_DRIVERS = {-1, 6, Integer.MIN_VALUE, Integer.MAX_VALUE};

    public static void main(String[] args) {
        registerNumbersPlates();
        registerRefusesTexts();
        registerRefusesAnEleventh();
        registerTakesReadings();
        plateAtFollowsTextsTurnedRound();
        plateAtRefuses();
        sellGivesAnotherHolder();
        sellInOneMinute();
        sellMovesDues();
        sellRefuses();
        holderRefuses();
        Check.end();
    }

    private static void registerNumbersPlates() {
        Keeper x = new Keeper();
        x.pass(5);
        Check.due("the first plate", Made.plate(x, 5, 3, 0), 0);
        Check.due("the second plate", Made.plate(x, 0, 0, 0, 0, 0, 0, 0, 0), 1);
        Check.due("the longest text", x.charAt(5), 'A');
        Check.due("plates", x.plates(), 2);
        Check.due("the holder", x.holder(0, 5), 5);
        Check.due("the holder of the second", x.holder(1, 5), 0);
        Check.due("ahead of it", x.holder(0, 4), Tollkeeper.NONE);
        Check.due("in the minute 0", x.holder(0, 0), Tollkeeper.NONE);
    }

    private static void registerRefusesTexts() {
        Keeper x = new Keeper();
        Check.noState(x, "a plate without a text", () -> x.register(0, 0));
        Made.plate(x, 0, 0, 0, 1);
        Check.noState(x, "a text that a plate has", () -> x.register(1, 1));
        x.mirror();
        Check.due("the text turned round", x.register(1, 1), 1);
        x.spell(14);
        Check.noState(x, "a text with a question mark", () -> x.register(0, 0));
        x.mirror();
        Check.noState(x, "one that begins with it", () -> x.register(0, 0));
        for (int driver : NO_DRIVERS) {
            Check.noIndex(x, "register(" + driver + ", 4)", () -> x.register(driver, 4));
        }
        for (int its : new int[] {-1, 4, Integer.MIN_VALUE, Integer.MAX_VALUE}) {
            Check.noArgument(x, "register(0, " + its + ")", () -> x.register(0, its));
        }
        Made.spell(x, 0);
        Check.due("a beginning of another text", x.register(0, 0), 2);
        Made.spell(x, 2, 3, 4, 5, 6, 7);
        Check.due("a text of six signs", x.register(0, 0), 3);
        Check.noState(x, "the same six signs", () -> x.register(0, 0));
        Made.spell(x, 0);
        Check.noState(x, "a plate's text behind a longer one", () -> x.register(0, 0));
    }

    private static void registerRefusesAnEleventh() {
        Keeper x = new Keeper();
        for (int sign = 0; sign < 10; sign++) {
            Check.due("plate", Made.plate(x, 0, 0, sign), sign);
        }
        Made.spell(x, 10);
        Check.noState(x, "an eleventh plate", () -> x.register(0, 0));
        Check.noArgument(x, "an eleventh plate of no class", () -> x.register(0, 4));
        Check.noIndex(x, "an eleventh plate of nobody", () -> x.register(6, 0));
        Check.due("plates", x.plates(), 10);
    }

    private static void registerTakesReadings() {
        Keeper x = new Keeper();
        x.alike(0, 1);
        Made.plate(x, 0, 0, 0);
        int reading = Made.reading(x, 0, 0, 1);
        int corrected = x.read(0, 0);
        x.correct(corrected, 0);
        Check.due("the plate of the reading", x.plateOf(reading), 0);
        Made.plate(x, 0, 0, 1);
        Check.due("a plate that fits better", x.plateOf(reading), 1);
        Check.due("but not for a corrected one", x.plateOf(corrected), 0);
        Check.due("trips of the one", x.trips(0), 1);
        Check.due("trips of the other", x.trips(1), 1);
    }

    private static void plateAtFollowsTextsTurnedRound() {
        Keeper x = new Keeper();
        // Turned round: BA, CA, A, car A, A car, B, last car A.
        Made.plate(x, 0, 0, 0, 1);
        Made.plate(x, 0, 0, 0, 2);
        Made.plate(x, 0, 0, 0);
        Made.plate(x, 0, 0, 0, 10);
        Made.plate(x, 0, 0, 10, 0);
        Made.plate(x, 0, 0, 1);
        Made.plate(x, 0, 0, 0, 13);
        Made.plate(x, 0, 0, 9, 0);
        int[] want = {2, 7, 4, 5, 0, 1, 3, 6};
        for (int place = 0; place < want.length; place++) {
            Check.due("plateAt(" + place + ")", x.plateAt(place), want[place]);
        }
    }

    private static void plateAtRefuses() {
        Keeper x = new Keeper();
        Check.noElement(x, "plateAt(0) of none", () -> x.plateAt(0));
        Made.plate(x, 0, 0, 1);
        Made.plate(x, 0, 0, 0);
        Check.due("plateAt(1)", x.plateAt(1), 0);
        for (int place : new int[] {-1, 2, Integer.MIN_VALUE, Integer.MAX_VALUE}) {
            Check.noElement(x, "plateAt(" + place + ")", () -> x.plateAt(place));
        }
    }

    private static void sellGivesAnotherHolder() {
        Keeper x = new Keeper();
        Made.plate(x, 0, 0, 0);
        x.pass(10);
        Check.due("sell to 1", x.sell(0, 1), 0);
        x.pass(10);
        Check.due("sell to 2", x.sell(0, 2), 1);
        x.pass(10);
        Check.due("sell to 0", x.sell(0, 0), 2);
        Check.due("sell to itself", x.sell(0, 0), 0);
        int[] minutes = {0, 9, 10, 19, 20, 29, 30};
        int[] drivers = {0, 0, 1, 1, 2, 2, 0};
        for (int i = 0; i < minutes.length; i++) {
            Check.due("holder in " + minutes[i], x.holder(0, minutes[i]), drivers[i]);
        }
    }

    private static void sellInOneMinute() {
        Keeper x = new Keeper();
        x.pass(7);
        Made.plate(x, 0, 0, 0);
        Check.due("sell in the minute of registration", x.sell(0, 1), 0);
        Check.due("who holds it", x.holder(0, 7), 1);
        Check.due("ahead of that", x.holder(0, 6), Tollkeeper.NONE);
        x.pass(1);
        x.sell(0, 2);
        Check.due("sell in this very minute", x.sell(0, 3), 2);
        Check.due("who holds it then", x.holder(0, 8), 3);
        Check.due("who held it", x.holder(0, 7), 1);
        for (int i = 0; i < 400; i++) {
            x.sell(0, i % 6);
        }
        Check.due("after many sales", x.holder(0, 8), 399 % 6);
        Check.due("who held it still", x.holder(0, 7), 1);
    }

    private static void sellMovesDues() {
        Keeper x = new Keeper();
        Made.plate(x, 0, 0, 0);
        x.pass(10);
        x.read(0, 10);
        Check.due("due from the holder", x.due(0), 2);
        x.sell(0, 4);
        Check.due("due from the one that sold", x.due(0), 0);
        Check.due("due from the one that bought", x.due(4), 2);
        Check.due("of whom the trip is", x.driverOf(0, 0), 4);
    }

    private static void sellRefuses() {
        Keeper x = new Keeper();
        Check.noIndex(x, "sell of no plate", () -> x.sell(0, 0));
        Made.plate(x, 0, 0, 0);
        for (int plate : new int[] {-1, 1, Integer.MIN_VALUE, Integer.MAX_VALUE}) {
            Check.noIndex(x, "sell of plate " + plate, () -> x.sell(plate, 0));
        }
        for (int driver : NO_DRIVERS) {
            Check.noIndex(x, "sell to " + driver, () -> x.sell(0, driver));
        }
    }

    private static void holderRefuses() {
        Keeper x = new Keeper();
        x.pass(3);
        Made.plate(x, 2, 0, 0);
        for (int minute : new int[] {-1, 4, Integer.MIN_VALUE, Integer.MAX_VALUE}) {
            Check.noArgument(x, "holder in " + minute, () -> x.holder(0, minute));
        }
        for (int plate : new int[] {-1, 1, Integer.MIN_VALUE, Integer.MAX_VALUE}) {
            Check.noIndex(x, "holder of " + plate, () -> x.holder(plate, -1));
        }
    }
}

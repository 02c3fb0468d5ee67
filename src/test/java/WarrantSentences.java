/** Tests of the sentences of 'Warrants' and of the promises 34 to 36. */
final class WarrantSentences {
    private static final int NONE = Tollkeeper.NONE;
    private static final int DAY = 1440;
    private static final int LAST_DAY = 34;
    private static final int MOST_WARRANTS = 8;
    private static final int MOST_ASKINGS = 40;
    private static final String AS_TOLD = "Throws `IndexOutOfBoundsException` as told";

    private WarrantSentences() {
    }

    static void test(Sentences s) {
        warrants(s);
        askings(s);
        making(s);
        asking(s);
        staling(s);
    }

    private static void warrants(Sentences s) {
        s.in("Warrants");
        s.test("Warrants are numbered from 0, at most 8.", WarrantSentences::warrantsAreNumberedTo7);
        String days = "A warrant is for a plate and for days from one to another one, both with (the day of a minute is"
            + " the minute divided by 1440, rounded down).";
        s.test(days, WarrantSentences::dayEndsAfter1440Minutes);
        s.test(days, WarrantSentences::bothDaysAreWithThem);
        s.test(days, WarrantSentences::warrantIsForOnePlate);
        String shows = "It shows the passings of those trips of the plate that began on one of these days, in their"
            + " order.";
        s.test(shows, WarrantSentences::tripsThatBeganAheadAreNotShown);
        s.test(shows, WarrantSentences::tripsThatEndBehindAreShownWhole);
        s.test(shows, WarrantSentences::passingsAreShownInTheirOrder);
    }

    private static void askings(Sentences s) {
        s.in("Warrants");
        String kept = "Each asking under it, at most 40 in all, is kept: the place that was asked for, and the gate and"
            + " the minute that were told.";
        s.test(kept, WarrantSentences::fortyAskingsAreKept);
        s.test(kept, WarrantSentences::refusedAskingsAreNotKept);
        s.test(kept, WarrantSentences::placeGateAndMinuteAreKept);
        String stale = "An answer is stale when the warrant would show another gate or minute at this place by now, or"
            + " nothing.";
        s.test(stale, WarrantSentences::anotherGateMakesStale);
        s.test(stale, WarrantSentences::anotherMinuteMakesStale);
        s.test(stale, WarrantSentences::nothingMakesStale);
        s.test(stale, WarrantSentences::theSameGateAndMinuteIsNotStale);
    }

    private static void making(Sentences s) {
        s.in("Promise 34: warrant");
        s.test("Makes a warrant.", WarrantSentences::warrantIsMade);
        s.test("- `from`: 0 to 34: the first day", WarrantSentences::fromIs0To34);
        s.test("- `to`: from to 34: the last day", WarrantSentences::toIsFromTo34);
        s.test("Returns its number.", WarrantSentences::warrantTellsItsNumber);
        s.test("Throws `IndexOutOfBoundsException` as told, of the plate", WarrantSentences::warrantRefusesPlates);
        s.test("Throws `IllegalArgumentException` if from or to is out of range", WarrantSentences::warrantRefusesDays);
        s.test("Throws `IllegalStateException` if there are 8 warrants", WarrantSentences::warrantRefusesANinth);
    }

    private static void asking(Sentences s) {
        s.in("Promise 35: ask");
        s.test("Asks under a warrant for a passing that it shows.", WarrantSentences::askTellsEachPassing);
        s.test("- `place`: from 0", WarrantSentences::askTakesPlacesFrom0);
        s.test("Returns 100000 times its gate, and its minute, together.", WarrantSentences::askTellsGateAndMinute);
        s.test(AS_TOLD, () -> refusesWarrants("ask", 0));
        s.test("Throws `IllegalStateException` if there were 40 askings, under all warrants together",
            WarrantSentences::askRefusesAFortyFirst);
        String nothing = "Throws `java` .util.NoSuchElementException if it does not show so many, or place is below 0";
        s.test(nothing, WarrantSentences::askRefusesPlaces);
        s.test(nothing, WarrantSentences::askRefusesEveryPlaceOfNothing);
    }

    private static void staling(Sentences s) {
        s.in("Promise 36: stale");
        s.test("Returns how many answers that were given under a warrant are stale.",
            WarrantSentences::staleCountsAnswersOfOneWarrant);
        s.test("Returns how many answers that were given under a warrant are stale.", WarrantSentences::staleCounts0To40);
        s.test(AS_TOLD, () -> refusesWarrants("stale"));
    }

    private static void checkShown(Keeper x, int warrant, int... want) {
        for (int place = 0; place < want.length; place++) {
            x.answers(want[place], "ask", warrant, place);
        }
        x.noElement("ask", warrant, want.length);
    }

    private static void refusesWarrants(String name, int... others) {
        Keeper none = Made.onePlate(0);
        none.read(0, 0);
        none.noIndex(name, Made.withFirst(0, others));
        Keeper x = Made.onePlate(0);
        x.read(0, 0);
        for (int warrant = 0; warrant < MOST_WARRANTS; warrant++) {
            x.warrant(0, 0, 0);
        }
        x.ask(7, 0);
        for (int warrant : Made.beyond(0, 7)) {
            x.noIndex(name, Made.withFirst(warrant, others));
        }
        x.answers(0, name, Made.withFirst(0, others));
        x.answers(0, name, Made.withFirst(7, others));
    }

    /** The plate 0 with these readings of the gate 0, each of which begins a trip, as far as minutes differ. */
    private static Keeper passingsOf(int... minutes) {
        Keeper x = Made.onePlate(Made.LAST_MINUTE);
        x.setPause(0);
        for (int minute : minutes) {
            x.read(0, minute);
        }
        return x;
    }

    // ---- warrants

    private static void warrantsAreNumberedTo7() {
        Keeper x = Made.onePlate(0);
        for (int warrant = 0; warrant < MOST_WARRANTS; warrant++) {
            x.noIndex("stale", warrant);
            x.answers(warrant, "warrant", 0, 0, 0);
            x.answers(0, "stale", warrant);
        }
        x.noState("warrant", 0, 0, 0);
        x.noIndex("stale", 8);
    }

    private static void dayEndsAfter1440Minutes() {
        Keeper x = passingsOf(0, DAY - 1, DAY, 2 * DAY - 1, 2 * DAY, 34 * DAY - 1, 34 * DAY, 50000);
        int[][] want = {{0, DAY - 1}, {DAY, 2 * DAY - 1}, {2 * DAY}, {}, {34 * DAY - 1}, {34 * DAY, 50000}};
        int[] days = {0, 1, 2, 3, 33, 34};
        for (int i = 0; i < days.length; i++) {
            x.warrant(0, days[i], days[i]);
            checkShown(x, i, want[i]);
        }
    }

    private static void bothDaysAreWithThem() {
        Keeper x = passingsOf(5 * DAY - 1, 5 * DAY, 6 * DAY, 7 * DAY, 8 * DAY - 1, 8 * DAY);
        x.warrant(0, 5, 7);
        checkShown(x, 0, 5 * DAY, 6 * DAY, 7 * DAY, 8 * DAY - 1);
        x.warrant(0, 5, 5);
        checkShown(x, 1, 5 * DAY);
        x.warrant(0, 0, 34);
        checkShown(x, 2, 5 * DAY - 1, 5 * DAY, 6 * DAY, 7 * DAY, 8 * DAY - 1, 8 * DAY);
    }

    private static void warrantIsForOnePlate() {
        Keeper x = passingsOf(0, 100);
        Made.plate(x, 0, 0, Made.B);
        x.read(1, 50);
        x.warrant(1, 0, 34);
        x.warrant(0, 0, 34);
        checkShown(x, 0, 100050);
        checkShown(x, 1, 0, 100);
        x.correct(0, 1);
        checkShown(x, 0, 0, 100050);
        checkShown(x, 1, 100);
    }

    private static void tripsThatBeganAheadAreNotShown() {
        Keeper x = passingsOf(DAY - 1, DAY, DAY + 1, DAY + 100);
        x.setPause(1);
        x.warrant(0, 1, 34);
        checkShown(x, 0, DAY + 100);
        x.setPause(0);
        checkShown(x, 0, DAY, DAY + 1, DAY + 100);
    }

    private static void tripsThatEndBehindAreShownWhole() {
        Keeper x = passingsOf(DAY - 1, DAY, DAY + 1, DAY + 100);
        x.setPause(1);
        x.warrant(0, 0, 0);
        checkShown(x, 0, DAY - 1, DAY, DAY + 1);
        x.setPause(99);
        checkShown(x, 0, DAY - 1, DAY, DAY + 1, DAY + 100);
        x.setPause(0);
        checkShown(x, 0, DAY - 1);
    }

    private static void passingsAreShownInTheirOrder() {
        Keeper x = Made.onePlate(2000);
        x.warrant(0, 0, 1);
        x.read(2, 1500);
        x.read(1, 10);
        x.read(7, 10);
        x.read(0, 2000);
        x.read(3, 0);
        checkShown(x, 0, 300000, 100010, 700010, 201500, 2000);
    }

    // ---- askings

    private static void fortyAskingsAreKept() {
        Keeper x = passingsOf(0, 100);
        x.warrant(0, 0, 0);
        x.warrant(0, 0, 0);
        for (int asking = 0; asking < MOST_ASKINGS; asking++) {
            x.answers(100, "ask", asking % 2, 1);
        }
        x.noState("ask", 0, 1);
        x.correct(0, NONE);
        x.answers(20, "stale", 0);
        x.answers(20, "stale", 1);
    }

    private static void refusedAskingsAreNotKept() {
        Keeper x = passingsOf(0);
        x.warrant(0, 0, 0);
        for (int times = 0; times < 5; times++) {
            x.noElement("ask", 0, 1);
            x.noElement("ask", 0, -1);
            x.noIndex("ask", 1, 0);
        }
        for (int asking = 0; asking < MOST_ASKINGS; asking++) {
            x.answers(0, "ask", 0, 0);
        }
        x.noState("ask", 0, 0);
        x.correct(0, NONE);
        x.answers(40, "stale", 0);
    }

    private static void placeGateAndMinuteAreKept() {
        Keeper x = Made.onePlate(2000);
        x.warrant(0, 0, 1);
        x.read(1, 100);
        x.read(2, 200);
        x.read(3, 300);
        x.ask(0, 0);
        x.ask(0, 1);
        x.ask(0, 2);
        // The place 2 shows nothing; the places 0 and 1 show what they showed.
        x.correct(2, NONE);
        x.answers(1, "stale", 0);
        // The place 1 shows what the place 2 showed.
        x.uncorrect(2);
        x.correct(1, NONE);
        x.answers(2, "stale", 0);
        x.uncorrect(1);
        x.answers(0, "stale", 0);
    }

    private static void anotherGateMakesStale() {
        Keeper x = Made.onePlate(100);
        x.warrant(0, 0, 0);
        x.read(1, 100);
        x.read(2, 100);
        x.answers(100100, "ask", 0, 0);
        x.answers(0, "stale", 0);
        x.correct(0, NONE);
        x.answers(1, "stale", 0);
        x.answers(200100, "ask", 0, 0);
        x.answers(1, "stale", 0);
        x.uncorrect(0);
        x.answers(1, "stale", 0);
    }

    private static void anotherMinuteMakesStale() {
        Keeper x = Made.onePlate(100);
        x.warrant(0, 0, 0);
        x.read(1, 100);
        x.answers(100100, "ask", 0, 0);
        x.read(1, 99);
        x.answers(1, "stale", 0);
        x.answers(100099, "ask", 0, 0);
        x.answers(1, "stale", 0);
        x.correct(1, NONE);
        x.answers(1, "stale", 0);
    }

    private static void nothingMakesStale() {
        Keeper x = passingsOf(DAY - 1, DAY);
        x.warrant(0, 1, 1);
        x.answers(DAY, "ask", 0, 0);
        // The trip begins on the day before.
        x.setPause(1);
        x.answers(1, "stale", 0);
        x.setPause(0);
        x.answers(0, "stale", 0);
        x.correct(1, NONE);
        x.answers(1, "stale", 0);
    }

    private static void theSameGateAndMinuteIsNotStale() {
        Keeper x = Made.onePlate(100);
        x.warrant(0, 0, 0);
        x.read(1, 100);
        x.read(1, 100);
        x.answers(100100, "ask", 0, 0);
        // Another passing, but of the same gate and minute.
        x.correct(0, NONE);
        x.answers(0, "stale", 0);
        // Passings behind it, and of other plates, change nothing.
        x.read(2, 100);
        Made.plate(x, 0, 0, Made.B);
        x.read(3, 0);
        x.answers(0, "stale", 0);
        x.correct(1, NONE);
        x.answers(1, "stale", 0);
        x.uncorrect(0);
        x.answers(0, "stale", 0);
    }

    // ---- making

    private static void warrantIsMade() {
        Keeper x = Made.onePlate(0);
        x.noIndex("ask", 0, 0);
        x.warrant(0, 0, 0);
        x.noElement("ask", 0, 0);
        // It goes on to show what comes later.
        x.read(5, 0);
        x.answers(500000, "ask", 0, 0);
        x.pass(1);
        x.read(5, 1);
        x.answers(500001, "ask", 0, 1);
    }

    private static void fromIs0To34() {
        Keeper x = passingsOf(0, 34 * DAY);
        x.answers(0, "warrant", 0, 0, 0);
        x.answers(1, "warrant", 0, 34, 34);
        checkShown(x, 0, 0);
        checkShown(x, 1, 34 * DAY);
        x.noArgument("warrant", 0, -1, 34);
        x.noArgument("warrant", 0, 35, 34);
        x.noArgument("warrant", 0, 35, 35);
    }

    private static void toIsFromTo34() {
        Keeper x = passingsOf(0, DAY, 34 * DAY);
        x.answers(0, "warrant", 0, 1, 1);
        x.answers(1, "warrant", 0, 1, 34);
        checkShown(x, 0, DAY);
        checkShown(x, 1, DAY, 34 * DAY);
        x.noArgument("warrant", 0, 1, 0);
        x.noArgument("warrant", 0, 1, 35);
        x.noArgument("warrant", 0, 34, 33);
    }

    private static void warrantTellsItsNumber() {
        Keeper x = Made.onePlate(0);
        Made.plate(x, 0, 0, Made.B);
        for (int warrant = 0; warrant < MOST_WARRANTS; warrant++) {
            x.answers(warrant, "warrant", warrant % 2, warrant, LAST_DAY - warrant);
        }
    }

    private static void warrantRefusesPlates() {
        Keeper none = new Keeper();
        none.noIndex("warrant", 0, 0, 0);
        Keeper x = new Keeper();
        for (int plate = 0; plate < 10; plate++) {
            Made.plate(x, 0, 0, plate);
        }
        for (int plate : Made.beyond(0, 9)) {
            x.noIndex("warrant", plate, 0, 0);
        }
        x.answers(0, "warrant", 0, 0, 0);
        x.answers(1, "warrant", 9, 0, 0);
    }

    private static void warrantRefusesDays() {
        Keeper x = Made.onePlate(0);
        for (int day : Made.beyond(0, 34)) {
            x.noArgument("warrant", 0, day, 34);
            x.noArgument("warrant", 0, 0, day);
            x.noArgument("warrant", 0, day, day);
        }
        x.noArgument("warrant", 0, 34, 0);
        x.noArgument("warrant", 0, 18, 17);
        x.answers(0, "warrant", 0, 17, 17);
    }

    private static void warrantRefusesANinth() {
        Keeper x = Made.onePlate(0);
        for (int warrant = 0; warrant < MOST_WARRANTS; warrant++) {
            x.warrant(0, 0, 0);
        }
        x.noState("warrant", 0, 0, 0);
        x.noState("warrant", 0, 34, 34);
    }

    // ---- asking

    private static void askTellsEachPassing() {
        Keeper x = Made.onePlate(2000);
        for (int reading = 0; reading < 60; reading++) {
            x.read(reading % 8, 20 * reading);
        }
        x.warrant(0, 0, 34);
        for (int place = 59; place >= 20; place--) {
            x.answers(100000 * (place % 8) + 20 * place, "ask", 0, place);
        }
    }

    private static void askTakesPlacesFrom0() {
        Keeper x = passingsOf(7, 8);
        x.warrant(0, 0, 0);
        x.answers(7, "ask", 0, 0);
        x.answers(8, "ask", 0, 1);
        x.noElement("ask", 0, -1);
        x.noElement("ask", 0, 2);
        x.answers(7, "ask", 0, 0);
    }

    private static void askTellsGateAndMinute() {
        Keeper x = Made.onePlate(50000);
        x.warrant(0, 0, 0);
        x.warrant(0, 34, 34);
        x.read(0, 0);
        x.answers(0, "ask", 0, 0);
        x.read(7, 50000);
        x.answers(750000, "ask", 1, 0);
        x.read(1, 0);
        x.answers(100000, "ask", 0, 1);
        x.read(0, 49999);
        x.answers(49999, "ask", 1, 0);
    }

    private static void askRefusesAFortyFirst() {
        Keeper x = passingsOf(0);
        for (int warrant = 0; warrant < MOST_WARRANTS; warrant++) {
            x.warrant(0, 0, 0);
        }
        for (int asking = 0; asking < MOST_ASKINGS; asking++) {
            x.answers(0, "ask", asking % MOST_WARRANTS, 0);
        }
        for (int warrant = 0; warrant < MOST_WARRANTS; warrant++) {
            x.noState("ask", warrant, 0);
        }
        x.correct(0, NONE);
        for (int warrant = 0; warrant < MOST_WARRANTS; warrant++) {
            x.answers(5, "stale", warrant);
        }
        x.noState("ask", 0, 0);
    }

    private static void askRefusesPlaces() {
        Keeper x = passingsOf(0, 100, DAY);
        x.warrant(0, 0, 0);
        x.ask(0, 1);
        for (int place : Made.beyond(0, 1)) {
            x.noElement("ask", 0, place);
        }
        Keeper full = Made.onePlate(0);
        full.warrant(0, 0, 34);
        for (int reading = 0; reading < 60; reading++) {
            full.read(0, 0);
        }
        for (int place : Made.beyond(0, 59)) {
            full.noElement("ask", 0, place);
        }
    }

    private static void askRefusesEveryPlaceOfNothing() {
        Keeper x = passingsOf(DAY);
        x.warrant(0, 0, 0);
        x.warrant(0, 2, 34);
        for (int place : new int[] {-1, 0, 1, Integer.MAX_VALUE}) {
            x.noElement("ask", 0, place);
            x.noElement("ask", 1, place);
        }
        Keeper withoutPassings = Made.onePlate(0);
        withoutPassings.warrant(0, 0, 34);
        withoutPassings.noElement("ask", 0, 0);
    }

    // ---- stale answers

    private static void staleCountsAnswersOfOneWarrant() {
        Keeper x = passingsOf(0, 100);
        x.warrant(0, 0, 0);
        x.warrant(0, 0, 0);
        x.warrant(0, 0, 0);
        x.ask(0, 0);
        x.ask(0, 0);
        x.ask(0, 1);
        x.ask(2, 1);
        x.correct(1, NONE);
        x.answers(1, "stale", 0);
        x.answers(0, "stale", 1);
        x.answers(1, "stale", 2);
        x.correct(0, NONE);
        x.answers(3, "stale", 0);
        x.answers(0, "stale", 1);
        x.answers(1, "stale", 2);
        // To ask whether answers are stale is no asking.
        x.answers(3, "stale", 0);
    }

    private static void staleCounts0To40() {
        Keeper x = passingsOf(0);
        x.warrant(0, 0, 0);
        x.answers(0, "stale", 0);
        for (int asking = 0; asking < MOST_ASKINGS; asking++) {
            x.ask(0, 0);
            x.answers(0, "stale", 0);
        }
        x.correct(0, NONE);
        x.answers(40, "stale", 0);
        x.uncorrect(0);
        x.answers(0, "stale", 0);
    }
}

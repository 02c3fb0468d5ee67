/** Tests of the sentences of 'Plates' and of the promises 14 to 18. */
final class PlateSentences {
    private static final int NONE = Tollkeeper.NONE;
    private static final int MOST_PLATES = 10;
    private static final int DRIVERS = 6;

    private PlateSentences() {
    }

    static void test(Sentences s) {
        plates(s);
        registering(s);
        selling(s);
        order(s);
        holding(s);
    }

    private static void plates(Sentences s) {
        s.in("Plates");
        s.test("Plates are numbered from 0, at most 10.", PlateSentences::platesAreNumberedTo9);
        String plate = "A plate has a text of 1 to 6 signs without question marks, no two of them the same; a"
            + " class, 0 to 3; and holders: a driver, 0 to 5, from the minute of its registration on, and"
            + " others from later minutes on.";
        s.test(plate, PlateSentences::plateHas1To6Signs);
        s.test(plate, PlateSentences::plateHasNoQuestionMark);
        s.test(plate, PlateSentences::noTwoPlatesHaveTheSameText);
        s.test(plate, PlateSentences::plateHasAClass0To3);
        s.test(plate, PlateSentences::plateHasADriver0To5);
        s.test(plate, PlateSentences::othersHoldItFromLaterMinutesOn);
        String order = "The order of plates is that of their texts turned round (as by mirror()), compared char by"
            + " char by the numbers of these chars; a text that is the beginning of another one comes first.";
        s.test(order, PlateSentences::orderGoesByTheLastSignFirst);
        s.test(order, PlateSentences::orderGoesByNumbersOfChars);
        s.test(order, PlateSentences::beginningComesFirst);
    }

    private static void registering(Sentences s) {
        s.in("Promise 14: register");
        s.test("Registers a plate with the spelled text; the driver holds it from now on.",
            PlateSentences::plateIsRegistered);
        s.test("- `its`: 0 to 3: its class", PlateSentences::registerTakesClasses0To3);
        s.test("Returns its number.", PlateSentences::registerTellsItsNumber);
        s.test("Throws `IndexOutOfBoundsException` as told, of the driver", PlateSentences::registerRefusesDrivers);
        s.test("Throws `IllegalArgumentException` if there is no such class", PlateSentences::registerRefusesClasses);
        String refused = "Throws `IllegalStateException` if the text is empty or has a question mark, another plate"
            + " has it, or there are 10 plates";
        s.test(refused, PlateSentences::registerRefusesNothing);
        s.test(refused, PlateSentences::registerRefusesAQuestionMark);
        s.test(refused, PlateSentences::registerRefusesAnothersText);
        s.test(refused, PlateSentences::registerRefusesAnEleventhPlate);
    }

    private static void selling(Sentences s) {
        s.in("Promise 15: sell");
        String sells = "Gives a plate another holder, from now on; who became the holder in this very minute does"
            + " not hold it any more.";
        s.test(sells, PlateSentences::sellGivesAnotherHolder);
        s.test(sells, PlateSentences::holderOfThisVeryMinuteHoldsItNoMore);
        s.test("Returns the holder before.", PlateSentences::sellTellsTheHolderBefore);
        s.test("Throws `IndexOutOfBoundsException` as told, of plate or driver", PlateSentences::sellRefusesPlates);
        s.test("Throws `IndexOutOfBoundsException` as told, of plate or driver", PlateSentences::sellRefusesDrivers);
    }

    private static void order(Sentences s) {
        s.in("Promise 16: plates");
        s.test("Returns how many plates there are.", PlateSentences::platesCounts0To10);
        s.in("Promise 17: plateAt");
        s.test("Returns the plate at a place in the order of plates.", PlateSentences::plateAtTellsTenPlaces);
        s.test("- `place`: from 0", PlateSentences::plateAtTakesPlacesFrom0);
        String refused = "Throws `java` .util.NoSuchElementException if there are not so many plates, or place is"
            + " below 0";
        s.test(refused, PlateSentences::plateAtRefusesPlaces);
        s.test(refused, PlateSentences::plateAtRefusesEveryPlaceOfNone);
    }

    private static void holding(Sentences s) {
        s.in("Promise 18: holder");
        s.test("Returns who held a plate in a minute.", PlateSentences::holderTellsWhoHeldIt);
        s.test("- `minute`: 0 to now", PlateSentences::holderTakesMinutesToNow);
        s.test("Returns the driver; NONE ahead of its registration.", PlateSentences::nobodyHoldsItAheadOfRegistration);
        s.test("Throws `IndexOutOfBoundsException` as told", PlateSentences::holderRefusesPlates);
        s.test("Throws `IllegalArgumentException` if minute is out of range", PlateSentences::holderRefusesMinutes);
    }

    private static Keeper tenPlates() {
        Keeper x = new Keeper();
        for (int plate = 0; plate < MOST_PLATES; plate++) {
            Made.plate(x, plate % DRIVERS, plate % 4, plate);
        }
        return x;
    }

    /** Registers plates with these texts, and looks whether the places have them in this order. */
    private static void checkOrder(int[][] texts, int... want) {
        Keeper x = new Keeper();
        for (int[] text : texts) {
            Made.plate(x, 0, 0, text);
        }
        for (int place = 0; place < want.length; place++) {
            x.answers(want[place], "plateAt", place);
        }
        x.noElement("plateAt", want.length);
    }

    // ---- plates

    private static void platesAreNumberedTo9() {
        Keeper x = new Keeper();
        for (int plate = 0; plate < MOST_PLATES; plate++) {
            x.noIndex("trips", plate);
            Made.spell(x, plate);
            x.answers(plate, "register", 0, 0);
            x.answers(0, "trips", plate);
        }
        Made.spell(x, Made.CAR);
        x.noState("register", 0, 0);
        x.noIndex("trips", 10);
    }

    private static void plateHas1To6Signs() {
        for (int sign : new int[] {Made.A, Made.J, Made.CAR, Made.LAST_CAR}) {
            Keeper x = new Keeper();
            x.noState("register", 0, 0);
            for (int count = 1; count <= 6; count++) {
                x.spell(sign);
                x.answers(count - 1, "register", 0, 0);
            }
            x.answers(0, "read", 0, 0);
            x.answers(5, "plateOf", 0);
        }
    }

    private static void plateHasNoQuestionMark() {
        for (int place = 0; place < 6; place++) {
            Keeper x = new Keeper();
            Made.spell(x, 0, 0, 0, 0, 0);
            if (place == 5) {
                x.spell(Made.MARK);
            } else {
                x.insert(Made.MARK, place);
            }
            x.noState("register", 0, 0);
        }
    }

    private static void noTwoPlatesHaveTheSameText() {
        Keeper x = new Keeper();
        Made.spell(x, 0, 1);
        x.answers(0, "register", 0, 0);
        x.noState("register", 0, 0);
        x.noState("register", 5, 3);
        Made.spell(x, 1, 0);
        x.answers(1, "register", 0, 0);
        Made.spell(x, 0);
        x.answers(2, "register", 0, 0);
        Made.spell(x, 0, 1, 0);
        x.answers(3, "register", 0, 0);
        Made.spell(x, 0, 0);
        x.answers(4, "register", 0, 0);
        x.pass(2000);
        Made.spell(x, 0, 1);
        x.noState("register", 1, 1);
    }

    private static void plateHasAClass0To3() {
        Keeper x = new Keeper();
        for (int its = 0; its < 4; its++) {
            Made.plate(x, 0, its, its);
            x.read(0, 0);
            x.answers(2 << its, "toll", its, 0);
        }
        Made.spell(x, Made.CAR);
        x.noArgument("register", 0, -1);
        x.noArgument("register", 0, 4);
    }

    private static void plateHasADriver0To5() {
        Keeper x = new Keeper();
        for (int driver = 0; driver < DRIVERS; driver++) {
            Made.plate(x, driver, 0, driver);
            x.answers(driver, "holder", driver, 0);
        }
        Made.spell(x, Made.CAR);
        x.noIndex("register", -1, 0);
        x.noIndex("register", 6, 0);
    }

    private static void othersHoldItFromLaterMinutesOn() {
        Keeper x = Made.atMinute(10);
        Made.plate(x, 5, 0, Made.A);
        x.pass(1);
        x.sell(0, 0);
        x.pass(1);
        x.sell(0, 3);
        x.pass(1);
        int[] want = {NONE, 5, 0, 3, 3};
        for (int i = 0; i < want.length; i++) {
            x.answers(want[i], "holder", 0, 9 + i);
        }
    }

    private static void orderGoesByTheLastSignFirst() {
        checkOrder(new int[][] {{9, 0}, {0, 9}, {5, 5}}, 0, 2, 1);
        checkOrder(new int[][] {{0, 0, 0, 0, 0, 1}, {9, 9, 9, 9, 9, 0}}, 1, 0);
        checkOrder(new int[][] {{1, 0, 9}, {0, 1, 9}}, 0, 1);
        checkOrder(new int[][] {{1, 9, 9, 9, 9, 9}, {0, 9, 9, 9, 9, 9}}, 1, 0);
    }

    private static void orderGoesByNumbersOfChars() {
        checkOrder(new int[][] {{13}, {12}, {11}, {10}, {9}, {8}, {1}, {0}}, 7, 6, 5, 4, 3, 2, 1, 0);
        checkOrder(new int[][] {{0, 10}, {9, 9}, {0, 13}, {13, 0}}, 3, 1, 0, 2);
    }

    private static void beginningComesFirst() {
        checkOrder(new int[][] {{0, 0, 0}, {0, 0}, {0}}, 2, 1, 0);
        checkOrder(new int[][] {{0}, {0, 0}, {0, 0, 0}}, 0, 1, 2);
        checkOrder(new int[][] {{0, 0, 0, 0, 0, 9}, {9}}, 1, 0);
        checkOrder(new int[][] {{9}, {0, 0, 0, 0, 0, 9}}, 0, 1);
        checkOrder(new int[][] {{0, 13}, {13}, {12, 13}}, 1, 0, 2);
        checkOrder(new int[][] {{1}, {9, 0}}, 1, 0);
    }

    // ---- registering

    private static void plateIsRegistered() {
        Keeper x = Made.atMinute(100);
        Made.plate(x, 4, 2, 10, 0);
        x.answers(1, "plates");
        x.answers(0, "read", 0, 100);
        x.answers(0, "plateOf", 0);
        x.answers(0, "cost", 0, 0);
        x.answers(NONE, "holder", 0, 99);
        x.answers(4, "holder", 0, 100);
        x.answers(4 * 2, "due", 4);
        x.pass(2000);
        x.answers(4, "holder", 0, 2100);
    }

    private static void registerTakesClasses0To3() {
        Keeper x = new Keeper();
        for (int its = 0; its < 4; its++) {
            Made.spell(x, its);
            x.answers(its, "register", 0, its);
        }
        Made.spell(x, Made.J);
        x.noArgument("register", 0, -1);
        x.noArgument("register", 0, 4);
        x.answers(4, "register", 0, 3);
    }

    private static void registerTellsItsNumber() {
        Keeper x = new Keeper();
        for (int plate = 0; plate < MOST_PLATES; plate++) {
            Made.spell(x, 13 - plate);
            x.answers(plate, "register", 0, 0);
        }
    }

    private static void registerRefusesDrivers() {
        Keeper x = new Keeper();
        x.spell(Made.A);
        for (int driver : Made.beyond(0, 5)) {
            x.noIndex("register", driver, 0);
        }
        x.answers(0, "register", 5, 0);
    }

    private static void registerRefusesClasses() {
        Keeper x = new Keeper();
        x.spell(Made.A);
        for (int its : Made.beyond(0, 3)) {
            x.noArgument("register", 0, its);
        }
        x.answers(0, "register", 0, 3);
    }

    private static void registerRefusesNothing() {
        Keeper x = new Keeper();
        x.noState("register", 0, 0);
        x.spell(Made.A);
        x.clearSpelled();
        x.noState("register", 5, 3);
    }

    private static void registerRefusesAQuestionMark() {
        Keeper x = new Keeper();
        x.spell(Made.MARK);
        x.noState("register", 0, 0);
        Made.spell(x, 0, 0, 0, 0, 0, Made.MARK);
        x.noState("register", 0, 0);
        x.mirror();
        x.noState("register", 0, 0);
    }

    private static void registerRefusesAnothersText() {
        Keeper x = new Keeper();
        int[][] texts = {{0}, {13}, {0, 1, 2, 3, 4, 10}, {0, 1, 2, 3, 4, 11}};
        for (int[] text : texts) {
            Made.plate(x, 0, 0, text);
            x.noState("register", 0, 0);
        }
        for (int[] text : texts) {
            Made.spell(x, text);
            x.noState("register", 1, 1);
        }
    }

    private static void registerRefusesAnEleventhPlate() {
        Keeper x = tenPlates();
        x.noState("register", 0, 0);
        Made.spell(x, Made.CAR);
        x.noState("register", 0, 0);
        Made.spell(x, 0, 1, 2, 3, 4, 5);
        x.noState("register", 5, 3);
        x.answers(10, "plates");
    }

    // ---- selling

    private static void sellGivesAnotherHolder() {
        Keeper x = Made.onePlate(10);
        x.read(0, 9);
        x.sell(0, 5);
        x.answers(0, "holder", 0, 9);
        x.answers(5, "holder", 0, 10);
        x.answers(2, "due", 0);
        x.setPause(0);
        x.read(0, 10);
        x.answers(2, "due", 0);
        x.answers(2, "due", 5);
        x.pass(1);
        x.sell(0, 0);
        x.answers(0, "holder", 0, 9);
        x.answers(5, "holder", 0, 10);
        x.answers(0, "holder", 0, 11);
        Keeper two = tenPlates();
        two.sell(3, 5);
        two.answers(2, "holder", 2, 0);
        two.answers(5, "holder", 3, 0);
        two.answers(4, "holder", 4, 0);
    }

    private static void holderOfThisVeryMinuteHoldsItNoMore() {
        Keeper x = Made.atMinute(7);
        Made.plate(x, 1, 0, Made.A);
        x.read(0, 7);
        x.sell(0, 2);
        x.answers(NONE, "holder", 0, 6);
        x.answers(2, "holder", 0, 7);
        x.answers(0, "due", 1);
        x.answers(2, "due", 2);
        x.pass(1);
        x.sell(0, 3);
        x.sell(0, 4);
        x.sell(0, 5);
        x.answers(2, "holder", 0, 7);
        x.answers(5, "holder", 0, 8);
        x.pass(1);
        x.answers(2, "holder", 0, 7);
        x.answers(5, "holder", 0, 8);
        x.answers(5, "holder", 0, 9);
    }

    private static void sellTellsTheHolderBefore() {
        Keeper x = new Keeper();
        Made.plate(x, 5, 0, Made.A);
        x.answers(5, "sell", 0, 1);
        x.answers(1, "sell", 0, 2);
        x.pass(1);
        x.answers(2, "sell", 0, 2);
        x.answers(2, "sell", 0, 0);
        x.answers(0, "sell", 0, 5);
        x.answers(5, "sell", 0, 5);
    }

    private static void sellRefusesPlates() {
        Keeper none = new Keeper();
        none.noIndex("sell", 0, 0);
        none.noIndex("sell", NONE, 0);
        Keeper x = tenPlates();
        for (int plate : Made.beyond(0, 9)) {
            x.noIndex("sell", plate, 0);
            x.noIndex("sell", plate, 6);
        }
        x.answers(0, "sell", 0, 1);
        x.answers(9 % DRIVERS, "sell", 9, 1);
    }

    private static void sellRefusesDrivers() {
        Keeper x = Made.onePlate(5);
        for (int driver : Made.beyond(0, 5)) {
            x.noIndex("sell", 0, driver);
        }
        x.answers(0, "sell", 0, 5);
        x.answers(5, "sell", 0, 0);
    }

    // ---- the order

    private static void platesCounts0To10() {
        Keeper x = new Keeper();
        x.answers(0, "plates");
        for (int plate = 0; plate < MOST_PLATES; plate++) {
            Made.plate(x, 0, 0, plate);
            x.answers(plate + 1, "plates");
        }
        x.noState("register", 0, 0);
        x.answers(10, "plates");
    }

    private static void plateAtTellsTenPlaces() {
        Keeper x = new Keeper();
        int[] signs = {5, 13, 0, 9, 10, 4, 1, 12, 8, 2};
        int[] want = {2, 6, 9, 5, 0, 8, 3, 4, 7, 1};
        for (int sign : signs) {
            Made.plate(x, 0, 0, sign);
        }
        for (int place = 0; place < want.length; place++) {
            x.answers(want[place], "plateAt", place);
        }
    }

    private static void plateAtTakesPlacesFrom0() {
        Keeper x = tenPlates();
        x.answers(0, "plateAt", 0);
        x.answers(9, "plateAt", 9);
        x.noElement("plateAt", -1);
        x.noElement("plateAt", 10);
    }

    private static void plateAtRefusesPlaces() {
        Keeper x = Made.onePlate(0);
        for (int place : Made.beyond(0, 0)) {
            x.noElement("plateAt", place);
        }
        Keeper full = tenPlates();
        for (int place : Made.beyond(0, 9)) {
            full.noElement("plateAt", place);
        }
    }

    private static void plateAtRefusesEveryPlaceOfNone() {
        Keeper x = new Keeper();
        x.noElement("plateAt", 0);
        x.noElement("plateAt", -1);
        x.noElement("plateAt", Integer.MAX_VALUE);
    }

    // ---- holders

    private static void holderTellsWhoHeldIt() {
        Keeper x = Made.onePlate(20);
        x.sell(0, 3);
        x.pass(20);
        x.sell(0, 4);
        x.answers(0, "holder", 0, 0);
        x.answers(0, "holder", 0, 19);
        x.answers(3, "holder", 0, 20);
        x.answers(3, "holder", 0, 39);
        x.answers(4, "holder", 0, 40);
    }

    private static void holderTakesMinutesToNow() {
        Keeper x = Made.onePlate(0);
        x.answers(0, "holder", 0, 0);
        x.noArgument("holder", 0, 1);
        x.noArgument("holder", 0, -1);
        x.pass(1);
        x.answers(0, "holder", 0, 1);
        x.noArgument("holder", 0, 2);
        Made.passTo(x, Made.LAST_MINUTE);
        x.answers(0, "holder", 0, 50000);
        x.noArgument("holder", 0, 50001);
    }

    private static void nobodyHoldsItAheadOfRegistration() {
        Keeper x = Made.atMinute(1000);
        Made.plate(x, 0, 0, Made.A);
        x.answers(NONE, "holder", 0, 0);
        x.answers(NONE, "holder", 0, 999);
        x.answers(0, "holder", 0, 1000);
        x.sell(0, 1);
        x.answers(NONE, "holder", 0, 999);
        x.answers(1, "holder", 0, 1000);
    }

    private static void holderRefusesPlates() {
        Keeper none = new Keeper();
        none.noIndex("holder", 0, 0);
        Keeper x = tenPlates();
        for (int plate : Made.beyond(0, 9)) {
            x.noIndex("holder", plate, 0);
        }
        x.answers(0, "holder", 0, 0);
        x.answers(9 % DRIVERS, "holder", 9, 0);
    }

    private static void holderRefusesMinutes() {
        Keeper x = Made.atMinute(300);
        Made.plate(x, 2, 0, Made.A);
        for (int minute : Made.beyond(0, 300)) {
            x.noArgument("holder", 0, minute);
        }
        x.answers(NONE, "holder", 0, 0);
        x.answers(2, "holder", 0, 300);
    }
}

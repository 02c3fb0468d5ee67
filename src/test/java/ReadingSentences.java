/** Tests of the sentences of 'Readings' and of the promises 19 to 23. */
final class ReadingSentences {
    private static final int NONE = Tollkeeper.NONE;
    private static final int MOST_READINGS = 60;
    private static final String AS_TOLD = "Throws `IndexOutOfBoundsException` as told";

    private ReadingSentences() {
    }

    static void test(Sentences s) {
        readings(s);
        costs(s);
        platesOfReadings(s);
        reading(s);
        correcting(s);
        asking(s);
    }

    private static void readings(Sentences s) {
        s.in("Readings");
        s.test("Readings are numbered from 0, at most 60.", ReadingSentences::readingsAreNumberedTo59);
        s.test("A reading has a gate, a minute and a text, perhaps with question marks.",
            ReadingSentences::readingHasAGateAMinuteAndAText);
        String now = "All that follows goes by plates, signs that are alike, roads and corrections as they are now.";
        s.test(now, ReadingSentences::allGoesByPlatesOfNow);
        s.test(now, ReadingSentences::allGoesBySignsAlikeNow);
        s.test(now, ReadingSentences::allGoesByRoadsOfNow);
        s.test(now, ReadingSentences::allGoesByCorrectionsOfNow);
    }

    private static void costs(Sentences s) {
        s.in("Readings");
        String cost = "The cost of a reading for a plate: for each place, 0 if both signs are the same, 1 if they"
            + " are alike, 2 for a question mark in the reading, together; there is none if the numbers of"
            + " signs are unlike, or for a place none of these holds.";
        s.test(cost, ReadingSentences::theSameSignsCost0);
        s.test(cost, ReadingSentences::signsAlikeCost1);
        s.test(cost, ReadingSentences::questionMarksCost2);
        s.test(cost, ReadingSentences::placesCostTogether);
        s.test(cost, ReadingSentences::noCostForUnlikeNumbersOfSigns);
        s.test(cost, ReadingSentences::noCostForAPlaceOfUnlikeSigns);
    }

    private static void platesOfReadings(Sentences s) {
        s.in("Readings");
        String plate = "A reading is of the plate for which its cost is least, of several of the one that comes"
            + " first in the order of plates; of no plate, if it has a cost for none; and when it is corrected,"
            + " of what the correction tells.";
        s.test(plate, ReadingSentences::readingIsOfThePlateOfLeastCost);
        s.test(plate, ReadingSentences::readingIsOfTheFirstInOrder);
        s.test(plate, ReadingSentences::readingIsOfNoPlate);
        s.test(plate, ReadingSentences::readingIsOfWhatTheCorrectionTells);
    }

    private static void reading(Sentences s) {
        s.in("Promise 19: read");
        s.test("Tells a reading of the spelled text, perhaps late.", ReadingSentences::readTellsLateReadings);
        s.test("- `minute`: 0 to now", ReadingSentences::readTakesMinutesToNow);
        s.test("Returns its number.", ReadingSentences::readTellsItsNumber);
        s.test(AS_TOLD, ReadingSentences::readRefusesGates);
        s.test("Throws `IllegalArgumentException` if minute is out of range", ReadingSentences::readRefusesMinutes);
        String refused = "Throws `IllegalStateException` if the text is empty, or there are 60 readings";
        s.test(refused, ReadingSentences::readRefusesNothing);
        s.test(refused, ReadingSentences::readRefusesASixtyFirst);
    }

    private static void correcting(Sentences s) {
        s.in("Promise 20: correct");
        s.test("Corrects a reading: it is of a plate, whatever its text is.", ReadingSentences::correctGoesBeyondTexts);
        s.test("- `plate`: a plate, or NONE for no plate", ReadingSentences::correctTakesNone);
        s.test("Returns the plate of which it was; NONE for no plate.", ReadingSentences::correctTellsThePlateBefore);
        s.test("Throws `IndexOutOfBoundsException` as told, of the reading, or of the plate",
            ReadingSentences::correctRefusesReadings);
        s.test("Throws `IndexOutOfBoundsException` as told, of the reading, or of the plate",
            ReadingSentences::correctRefusesPlates);
        s.in("Promise 21: uncorrect");
        s.test("Takes the correction of a reading back.", ReadingSentences::uncorrectTakesItBack);
        s.test("Returns the plate of which it is then; NONE for no plate.", ReadingSentences::uncorrectTellsThePlateThen);
        s.test(AS_TOLD, ReadingSentences::uncorrectRefusesReadings);
        s.test("Throws `IllegalStateException` if it is not corrected", ReadingSentences::uncorrectRefusesWhatIsNotCorrected);
    }

    private static void asking(Sentences s) {
        s.in("Promise 22: plateOf");
        s.test("Returns the plate of a reading.", ReadingSentences::plateOfTellsEachPlate);
        s.test("Returns the plate; NONE for no plate.", ReadingSentences::plateOfTellsNone);
        s.test(AS_TOLD, ReadingSentences::plateOfRefusesReadings);
        s.in("Promise 23: cost");
        s.test("Returns the cost of a reading for a plate.", ReadingSentences::costIsToldForEachPlate);
        s.test("Returns the cost; NONE if there is none.", ReadingSentences::costTells0To12OrNone);
        s.test("Throws `IndexOutOfBoundsException` as told, of either", ReadingSentences::costRefusesReadings);
        s.test("Throws `IndexOutOfBoundsException` as told, of either", ReadingSentences::costRefusesPlates);
    }

    /** An object with one plate of this text, on which a reading of the other text costs so much. */
    private static void checkCost(int[] plate, int[] read, int want) {
        Keeper x = new Keeper();
        x.alike(Made.A, Made.B);
        x.alike(Made.CAR, Made.J);
        Made.plate(x, 0, 0, plate);
        Made.reading(x, 0, 0, read);
        x.answers(want, "cost", 0, 0);
        x.answers(want == NONE ? NONE : 0, "plateOf", 0);
    }

    private static int[] text(int... signs) {
        return signs;
    }

    /** The plates 0 to a last one, with the texts A to J, and the reading 0, A. */
    private static Keeper platesTo(int last) {
        Keeper x = new Keeper();
        for (int plate = 0; plate <= last; plate++) {
            Made.plate(x, 0, 0, plate);
        }
        Made.reading(x, 0, 0, Made.A);
        return x;
    }

    private static Keeper sixtyReadings() {
        Keeper x = new Keeper();
        x.spell(Made.A);
        for (int reading = 0; reading < MOST_READINGS; reading++) {
            x.read(0, 0);
        }
        return x;
    }

    // ---- readings

    private static void readingsAreNumberedTo59() {
        Keeper x = new Keeper();
        x.noIndex("plateOf", 0);
        x.spell(Made.A);
        for (int reading = 0; reading < MOST_READINGS; reading++) {
            x.answers(reading, "read", 0, 0);
        }
        x.answers(NONE, "plateOf", 0);
        x.answers(NONE, "plateOf", 59);
        x.noState("read", 0, 0);
        x.noIndex("plateOf", 60);
    }

    private static void readingHasAGateAMinuteAndAText() {
        Keeper x = Made.onePlate(50000);
        x.spell(Made.B);
        x.register(0, 0);
        x.warrant(0, 0, 34);
        x.warrant(1, 0, 34);
        Made.reading(x, 7, 50000, Made.MARK);
        Made.reading(x, 0, 0, Made.A);
        Made.reading(x, 3, 1440, Made.MARK, Made.MARK, Made.MARK, Made.MARK, Made.MARK, Made.MARK);
        Made.reading(x, 3, 1440, Made.A, Made.MARK);
        x.answers(0, "ask", 0, 0);
        x.answers(750000, "ask", 0, 1);
        x.answers(NONE, "plateOf", 2);
        int longPlate = Made.plate(x, 0, 0, 0, 1, 2, 3, 4, 5);
        x.answers(12, "cost", 2, longPlate);
        x.answers(longPlate, "plateOf", 2);
        int shortPlate = Made.plate(x, 0, 0, Made.A, Made.C);
        x.answers(2, "cost", 3, shortPlate);
        x.answers(1, "plateOf", 3);
        x.answers(301440, "ask", 1, 0);
    }

    private static void allGoesByPlatesOfNow() {
        Keeper x = new Keeper();
        Made.reading(x, 0, 0, Made.MARK, Made.B);
        x.answers(NONE, "plateOf", 0);
        Made.plate(x, 0, 0, Made.C, Made.B);
        x.answers(0, "plateOf", 0);
        x.answers(1, "trips", 0);
        x.answers(2, "due", 0);
        x.warrant(0, 0, 0);
        x.ask(0, 0);
        Made.plate(x, 1, 0, Made.B, Made.B);
        x.answers(1, "plateOf", 0);
        x.answers(0, "trips", 0);
        x.answers(0, "due", 0);
        x.answers(1, "trips", 1);
        x.answers(2, "due", 1);
        x.answers(1, "stale", 0);
    }

    private static void allGoesBySignsAlikeNow() {
        Keeper x = Made.onePlate(0);
        Made.reading(x, 0, 0, Made.B);
        x.answers(0, "trips", 0);
        x.alike(Made.A, Made.B);
        x.answers(1, "cost", 0, 0);
        x.answers(0, "plateOf", 0);
        x.answers(1, "trips", 0);
        x.answers(0, "tripOf", 0);
        x.answers(2, "due", 0);
        x.warrant(0, 0, 0);
        x.answers(0, "ask", 0, 0);
        x.alike(Made.A, Made.B);
        x.answers(NONE, "plateOf", 0);
        x.answers(0, "trips", 0);
        x.answers(NONE, "tripOf", 0);
        x.answers(0, "due", 0);
        x.answers(1, "stale", 0);
    }

    private static void allGoesByRoadsOfNow() {
        Keeper x = Made.onePlate(100);
        x.read(0, 0);
        x.read(1, 60);
        x.answers(2, "trips", 0);
        x.answers(4, "due", 0);
        x.road(0, 1, 200);
        x.answers(1, "trips", 0);
        x.answers(202, "toll", 0, 0);
        x.road(0, 2, 20);
        x.road(2, 1, 20);
        x.answers(42, "due", 0);
        x.road(0, 1, 0);
        x.answers(42, "dueAnew", 0);
        x.road(2, 1, 0);
        x.answers(2, "trips", 0);
        x.answers(4, "due", 0);
    }

    private static void allGoesByCorrectionsOfNow() {
        Keeper x = Made.onePlate(0);
        Made.plate(x, 5, 1, Made.B);
        Made.reading(x, 0, 0, Made.A);
        x.correct(0, 1);
        x.answers(0, "trips", 0);
        x.answers(1, "trips", 1);
        x.answers(0, "due", 0);
        x.answers(4, "due", 5);
        x.correct(0, NONE);
        x.answers(0, "trips", 1);
        x.answers(0, "due", 5);
        x.uncorrect(0);
        x.answers(1, "trips", 0);
        x.answers(2, "due", 0);
    }

    // ---- costs

    private static void theSameSignsCost0() {
        checkCost(text(Made.A), text(Made.A), 0);
        checkCost(text(Made.LAST_CAR), text(Made.LAST_CAR), 0);
        checkCost(text(0, 1, 2, 10, 9, 13), text(0, 1, 2, 10, 9, 13), 0);
    }

    private static void signsAlikeCost1() {
        checkCost(text(Made.A), text(Made.B), 1);
        checkCost(text(Made.B), text(Made.A), 1);
        checkCost(text(Made.J), text(Made.CAR), 1);
        checkCost(text(0, 1, 9, 10, 0, 1), text(1, 0, 10, 9, 1, 0), 6);
    }

    private static void questionMarksCost2() {
        checkCost(text(Made.C), text(Made.MARK), 2);
        checkCost(text(Made.LAST_CAR), text(Made.MARK), 2);
        checkCost(text(0, 1, 9, 10, 0, 1), text(14, 14, 14, 14, 14, 14), 12);
    }

    private static void placesCostTogether() {
        checkCost(text(0, 2, 3), text(1, 2, 14), 3);
        checkCost(text(0, 2, 3, 9, 9, 9), text(14, 2, 14, 10, 9, 10), 6);
        checkCost(text(2, 2, 2, 2, 2, 0), text(2, 2, 2, 2, 2, 1), 1);
        checkCost(text(0, 2, 2, 2, 2, 2), text(14, 2, 2, 2, 2, 2), 2);
    }

    private static void noCostForUnlikeNumbersOfSigns() {
        checkCost(text(0, 0), text(0), NONE);
        checkCost(text(0), text(0, 0), NONE);
        checkCost(text(0, 0, 0, 0, 0, 0), text(0, 0, 0, 0, 0), NONE);
        checkCost(text(0, 0, 0, 0, 0), text(14, 14, 14, 14, 14, 14), NONE);
        // The chars are as many, but the signs are not.
        checkCost(text(10), text(14, 14), NONE);
        checkCost(text(0, 0), text(10), NONE);
    }

    private static void noCostForAPlaceOfUnlikeSigns() {
        checkCost(text(0), text(2), NONE);
        checkCost(text(10), text(11), NONE);
        checkCost(text(1), text(9), NONE);
        checkCost(text(0, 0, 0, 0, 0, 0), text(2, 0, 0, 0, 0, 0), NONE);
        checkCost(text(0, 0, 0, 0, 0, 0), text(14, 14, 14, 14, 14, 2), NONE);
        checkCost(text(0, 2), text(2, 0), NONE);
    }

    // ---- plates of readings

    private static void readingIsOfThePlateOfLeastCost() {
        Keeper x = new Keeper();
        x.alike(Made.A, Made.B);
        Made.plate(x, 0, 0, 0, 0);
        Made.plate(x, 0, 0, 1, 0);
        Made.plate(x, 0, 0, 9, 1);
        // The costs are 3, 3 and 2; then 3, 2 and none; then 1, 0 and none.
        Made.reading(x, 0, 0, Made.MARK, 1);
        x.answers(2, "plateOf", 0);
        Made.reading(x, 0, 0, 1, Made.MARK);
        x.answers(1, "plateOf", 1);
        Made.reading(x, 0, 0, 1, 0);
        x.answers(1, "plateOf", 2);
    }

    private static void readingIsOfTheFirstInOrder() {
        Keeper x = new Keeper();
        Made.reading(x, 0, 0, Made.MARK, Made.MARK);
        Made.plate(x, 0, 0, 0, 13);
        x.answers(0, "plateOf", 0);
        Made.plate(x, 0, 0, 13, 12);
        x.answers(1, "plateOf", 0);
        Made.plate(x, 0, 0, 0, 11);
        x.answers(2, "plateOf", 0);
        Made.plate(x, 0, 0, 13, 0);
        x.answers(3, "plateOf", 0);
        Made.plate(x, 0, 0, 0, 1);
        x.answers(3, "plateOf", 0);
        Made.plate(x, 0, 0, 0, 0, 0);
        x.answers(3, "plateOf", 0);
        Made.plate(x, 0, 0, 12, 0);
        x.answers(6, "plateOf", 0);
    }

    private static void readingIsOfNoPlate() {
        Keeper x = new Keeper();
        Made.reading(x, 0, 0, Made.A);
        x.answers(NONE, "plateOf", 0);
        Made.plate(x, 0, 0, Made.B);
        Made.plate(x, 0, 0, Made.A, Made.A);
        x.answers(NONE, "plateOf", 0);
        x.answers(NONE, "tripOf", 0);
        x.answers(0, "due", 0);
        Made.plate(x, 0, 0, Made.A);
        x.answers(2, "plateOf", 0);
    }

    private static void readingIsOfWhatTheCorrectionTells() {
        Keeper x = new Keeper();
        Made.plate(x, 0, 0, Made.B);
        Made.reading(x, 0, 0, Made.A);
        x.correct(0, 0);
        x.answers(0, "plateOf", 0);
        Made.plate(x, 0, 0, Made.A);
        x.answers(0, "plateOf", 0);
        x.correct(0, NONE);
        x.answers(NONE, "plateOf", 0);
        x.alike(Made.A, Made.C);
        Made.plate(x, 0, 0, Made.C);
        x.answers(NONE, "plateOf", 0);
        x.correct(0, 2);
        x.alike(Made.A, Made.C);
        x.answers(2, "plateOf", 0);
    }

    // ---- reading

    private static void readTellsLateReadings() {
        Keeper x = Made.onePlate(2000);
        x.warrant(0, 0, 34);
        x.read(0, 2000);
        x.answers(2000, "ask", 0, 0);
        x.read(1, 0);
        x.answers(100000, "ask", 0, 0);
        x.answers(2000, "ask", 0, 1);
        x.read(2, 1000);
        x.answers(201000, "ask", 0, 1);
        x.answers(2, "stale", 0);
    }

    private static void readTakesMinutesToNow() {
        Keeper x = new Keeper();
        x.spell(Made.A);
        x.answers(0, "read", 0, 0);
        x.noArgument("read", 0, 1);
        x.noArgument("read", 0, -1);
        x.pass(1);
        x.answers(1, "read", 0, 1);
        x.answers(2, "read", 0, 0);
        x.noArgument("read", 0, 2);
        Made.passTo(x, Made.LAST_MINUTE);
        x.answers(3, "read", 0, 50000);
        x.noArgument("read", 0, 50001);
    }

    private static void readTellsItsNumber() {
        Keeper x = Made.onePlate(100);
        for (int reading = 0; reading < MOST_READINGS; reading++) {
            x.answers(reading, "read", reading % 8, 100 - reading);
        }
    }

    private static void readRefusesGates() {
        Keeper x = new Keeper();
        x.spell(Made.A);
        for (int gate : Made.beyond(0, 7)) {
            x.noIndex("read", gate, 0);
        }
        x.answers(0, "read", 7, 0);
    }

    private static void readRefusesMinutes() {
        Keeper x = Made.atMinute(300);
        x.spell(Made.A);
        for (int minute : Made.beyond(0, 300)) {
            x.noArgument("read", 0, minute);
        }
        x.answers(0, "read", 0, 300);
    }

    private static void readRefusesNothing() {
        Keeper x = new Keeper();
        x.noState("read", 0, 0);
        x.spell(Made.A);
        x.clearSpelled();
        x.noState("read", 7, 0);
        x.spell(Made.MARK);
        x.answers(0, "read", 7, 0);
    }

    private static void readRefusesASixtyFirst() {
        Keeper x = sixtyReadings();
        x.noState("read", 0, 0);
        x.spell(Made.MARK);
        x.noState("read", 7, 0);
        x.correct(0, NONE);
        x.noState("read", 0, 0);
        x.uncorrect(0);
        x.noState("read", 0, 0);
    }

    // ---- correcting

    private static void correctGoesBeyondTexts() {
        Keeper x = new Keeper();
        Made.plate(x, 0, 0, Made.A);
        Made.plate(x, 1, 0, 0, 1, 2, 3, 4, 10);
        Made.reading(x, 0, 0, Made.A);
        x.correct(0, 1);
        x.answers(NONE, "cost", 0, 1);
        x.answers(1, "plateOf", 0);
        x.answers(1, "trips", 1);
        x.answers(0, "trips", 0);
        x.answers(2, "due", 1);
        Made.reading(x, 0, 0, Made.MARK, Made.J);
        x.correct(1, 0);
        x.answers(0, "plateOf", 1);
    }

    private static void correctTakesNone() {
        Keeper x = platesTo(9);
        x.answers(0, "correct", 0, 9);
        x.answers(9, "correct", 0, 0);
        x.answers(0, "correct", 0, NONE);
        x.answers(NONE, "plateOf", 0);
        x.noIndex("correct", 0, -2);
        x.noIndex("correct", 0, 10);
        Keeper withoutPlates = new Keeper();
        Made.reading(withoutPlates, 0, 0, Made.A);
        withoutPlates.answers(NONE, "correct", 0, NONE);
        withoutPlates.noIndex("correct", 0, 0);
    }

    private static void correctTellsThePlateBefore() {
        Keeper x = platesTo(1);
        x.answers(0, "correct", 0, 0);
        x.answers(0, "correct", 0, 1);
        x.answers(1, "correct", 0, 1);
        x.answers(1, "correct", 0, NONE);
        x.answers(NONE, "correct", 0, NONE);
        x.answers(NONE, "correct", 0, 0);
        Made.reading(x, 0, 0, Made.LAST_CAR);
        x.answers(NONE, "correct", 1, 0);
    }

    private static void correctRefusesReadings() {
        Keeper none = Made.onePlate(0);
        none.noIndex("correct", 0, 0);
        none.noIndex("correct", NONE, NONE);
        Keeper x = sixtyReadings();
        x.register(0, 0);
        for (int reading : Made.beyond(0, 59)) {
            x.noIndex("correct", reading, 0);
            x.noIndex("correct", reading, NONE);
        }
        x.answers(0, "correct", 0, NONE);
        x.answers(0, "correct", 59, NONE);
    }

    private static void correctRefusesPlates() {
        Keeper x = platesTo(9);
        for (int plate : Made.beyond(-1, 9)) {
            x.noIndex("correct", 0, plate);
        }
        // A correction that was refused is none.
        x.noState("uncorrect", 0);
    }

    private static void uncorrectTakesItBack() {
        Keeper x = platesTo(1);
        x.correct(0, 1);
        x.uncorrect(0);
        x.answers(0, "plateOf", 0);
        x.answers(1, "trips", 0);
        x.answers(0, "trips", 1);
        x.correct(0, NONE);
        x.correct(0, 1);
        x.uncorrect(0);
        x.answers(0, "plateOf", 0);
        // Signs go on to tell its plate.
        x.alike(Made.A, Made.C);
        Made.plate(x, 0, 0, Made.C);
        x.answers(0, "plateOf", 0);
        Made.reading(x, 0, 0, Made.C);
        x.correct(1, 0);
        x.uncorrect(1);
        x.answers(2, "plateOf", 1);
    }

    private static void uncorrectTellsThePlateThen() {
        Keeper x = platesTo(1);
        x.correct(0, 1);
        x.answers(0, "uncorrect", 0);
        x.correct(0, NONE);
        x.answers(0, "uncorrect", 0);
        Made.reading(x, 0, 0, Made.LAST_CAR);
        x.correct(1, 0);
        x.answers(NONE, "uncorrect", 1);
        x.correct(1, 0);
        x.alike(Made.B, Made.LAST_CAR);
        x.answers(1, "uncorrect", 1);
    }

    private static void uncorrectRefusesReadings() {
        Keeper none = Made.onePlate(0);
        none.noIndex("uncorrect", 0);
        Keeper x = sixtyReadings();
        x.correct(0, NONE);
        x.correct(59, NONE);
        for (int reading : Made.beyond(0, 59)) {
            x.noIndex("uncorrect", reading);
        }
        x.answers(NONE, "uncorrect", 0);
        x.answers(NONE, "uncorrect", 59);
    }

    private static void uncorrectRefusesWhatIsNotCorrected() {
        Keeper x = platesTo(1);
        x.noState("uncorrect", 0);
        x.correct(0, 0);
        x.answers(0, "uncorrect", 0);
        x.noState("uncorrect", 0);
        x.correct(0, NONE);
        x.correct(0, NONE);
        x.uncorrect(0);
        x.noState("uncorrect", 0);
        Made.reading(x, 0, 0, Made.A);
        x.correct(0, 1);
        x.noState("uncorrect", 1);
    }

    // ---- asking

    private static void plateOfTellsEachPlate() {
        Keeper x = new Keeper();
        for (int plate = 0; plate < 10; plate++) {
            Made.plate(x, 0, 0, 13 - plate);
        }
        for (int plate = 9; plate >= 0; plate--) {
            Made.reading(x, 0, 0, 13 - plate);
            x.answers(plate, "plateOf", 9 - plate);
        }
    }

    private static void plateOfTellsNone() {
        Keeper x = platesTo(0);
        Made.reading(x, 0, 0, Made.C);
        x.answers(0, "plateOf", 0);
        x.answers(NONE, "plateOf", 1);
        x.correct(0, NONE);
        x.answers(NONE, "plateOf", 0);
    }

    private static void plateOfRefusesReadings() {
        Keeper none = Made.onePlate(0);
        none.noIndex("plateOf", 0);
        Keeper x = sixtyReadings();
        for (int reading : Made.beyond(0, 59)) {
            x.noIndex("plateOf", reading);
        }
        x.answers(NONE, "plateOf", 0);
        x.answers(NONE, "plateOf", 59);
    }

    private static void costIsToldForEachPlate() {
        Keeper x = new Keeper();
        x.alike(Made.A, Made.B);
        Made.plate(x, 0, 0, Made.B);
        Made.plate(x, 0, 0, Made.A);
        Made.plate(x, 0, 0, Made.C);
        Made.reading(x, 0, 0, Made.A);
        Made.reading(x, 0, 0, Made.MARK);
        int[] want = {1, 0, NONE};
        for (int plate = 0; plate < want.length; plate++) {
            x.answers(want[plate], "cost", 0, plate);
            x.answers(2, "cost", 1, plate);
        }
        // A correction does not change what a text costs.
        x.correct(0, 2);
        x.answers(NONE, "cost", 0, 2);
        x.answers(1, "cost", 0, 0);
    }

    private static void costTells0To12OrNone() {
        for (int marks = 0; marks <= 6; marks++) {
            Keeper x = new Keeper();
            Made.plate(x, 0, 0, 0, 1, 2, 3, 4, 5);
            x.clearSpelled();
            for (int place = 0; place < 6; place++) {
                x.spell(place < marks ? Made.MARK : place);
            }
            x.read(0, 0);
            x.answers(2 * marks, "cost", 0, 0);
            Made.reading(x, 0, 0, 14, 14, 14, 14, 14);
            x.answers(NONE, "cost", 1, 0);
        }
    }

    private static void costRefusesReadings() {
        Keeper none = Made.onePlate(0);
        none.noIndex("cost", 0, 0);
        Keeper x = sixtyReadings();
        x.register(0, 0);
        for (int reading : Made.beyond(0, 59)) {
            x.noIndex("cost", reading, 0);
        }
        x.answers(0, "cost", 0, 0);
        x.answers(0, "cost", 59, 0);
    }

    private static void costRefusesPlates() {
        Keeper none = new Keeper();
        Made.reading(none, 0, 0, Made.A);
        none.noIndex("cost", 0, 0);
        none.noIndex("cost", 0, NONE);
        Keeper x = platesTo(9);
        for (int plate : Made.beyond(0, 9)) {
            x.noIndex("cost", 0, plate);
        }
        x.answers(0, "cost", 0, 0);
        x.answers(NONE, "cost", 0, 9);
    }
}

import java.util.List;

/** Tests of the sentences of 'What it is' and of 'Exceptions'. */
final class ExceptionSentences {
    private static final int NONE = Tollkeeper.NONE;
    private static final int FAR = Integer.MAX_VALUE;

    private record Told(String name, int... arguments) {
    }

    private ExceptionSentences() {
    }

    static void test(Sentences s) {
        s.in("What it is");
        String calls = "An object is used for at most 512 calls after it has been made; what later calls answer is free.";
        s.test(calls, ExceptionSentences::the512thCallIsAnswered);
        s.test(calls, ExceptionSentences::allIsFullWithin512Calls);
        s.in("Exceptions");
        kinds(s);
        severalApply(s);
        s.test("The constants: `NONE = -1`: There is none.", ExceptionSentences::noneIsMinus1);
    }

    private static void kinds(Sentences s) {
        String index = "IndexOutOfBoundsException: there is no such gate, sign, plate, reading, driver, warrant or trip.";
        s.test(index, ExceptionSentences::noSuchGate);
        s.test(index, ExceptionSentences::noSuchSign);
        s.test(index, ExceptionSentences::noSuchPlate);
        s.test(index, ExceptionSentences::noSuchReading);
        s.test(index, ExceptionSentences::noSuchDriver);
        s.test(index, ExceptionSentences::noSuchWarrant);
        s.test(index, ExceptionSentences::noSuchTrip);
        s.test("IllegalArgumentException: another argument is out of its range.",
            ExceptionSentences::anotherArgumentIsOutOfItsRange);
        s.test("IllegalStateException, NoSuchElementException: as the method tells.",
            ExceptionSentences::asTheMethodTells);
    }

    private static void severalApply(Sentences s) {
        String several = "If several apply, the one that is named first in the throws clause is thrown; a call that throws"
            + " changes nothing.";
        s.test(several, ExceptionSentences::severalApplyToPass);
        s.test(several, ExceptionSentences::severalApplyToRoad);
        s.test(several, ExceptionSentences::severalApplyToSpell);
        s.test(several, ExceptionSentences::severalApplyToInsert);
        s.test(several, ExceptionSentences::severalApplyToAlike);
        s.test(several, ExceptionSentences::severalApplyToRegister);
        s.test(several, ExceptionSentences::severalApplyToHolder);
        s.test(several, ExceptionSentences::severalApplyToRead);
        s.test(several, ExceptionSentences::severalApplyToUncorrect);
        s.test(several, ExceptionSentences::severalApplyToWarrant);
        s.test(several, ExceptionSentences::severalApplyToAsk);
        s.test(several, ExceptionSentences::callsThatThrowChangeNothing);
    }

    // ---- what it is

    private static void the512thCallIsAnswered() {
        Keeper x = Made.onePlate(0);
        int minute = 0;
        while (x.callsLeft() > 4) {
            minute = x.pass(1);
            x.sell(0, minute % 6);
        }
        x.answers(1, "holder", 0, 1);
        x.answers((minute - 1) % 6, "holder", 0, minute - 1);
        while (x.callsLeft() > 1) {
            x.now();
        }
        x.answers(minute % 6, "holder", 0, minute);
        Check.due("calls left", x.callsLeft(), 0);
    }

    private static void allIsFullWithin512Calls() {
        Keeper x = new Keeper();
        for (int plate = 0; plate < 10; plate++) {
            Made.plate(x, plate % 6, plate % 4, plate);
        }
        x.pass(2000);
        for (int reading = 0; reading < 60; reading++) {
            x.answers(reading, "read", reading % 8, 20 * reading);
        }
        for (int warrant = 0; warrant < 8; warrant++) {
            x.answers(warrant, "warrant", 9, 0, 34);
        }
        for (int asking = 0; asking < 40; asking++) {
            x.answers(100000 * (asking % 8) + 20 * asking, "ask", asking % 8, asking);
        }
        Made.spell(x, 14, 14, 14, 14, 14, 14);
        x.noState("spell", 0);
        x.noState("register", 0, 0);
        x.noState("read", 0, 0);
        x.noState("warrant", 0, 0, 0);
        x.noState("ask", 0, 0);
        x.answers(60, "trips", 9);
        x.answers(60, "tripsAnew", 9);
        for (int reading = 0; reading < 60; reading++) {
            x.answers(9, "correct", reading, 8);
            x.answers(reading, "tripOf", reading);
        }
        for (int warrant = 0; warrant < 8; warrant++) {
            x.answers(5, "stale", warrant);
        }
        x.answers(2 * 60, "due", 2);
    }

    private static void noneIsMinus1() {
        Check.due("NONE", Tollkeeper.NONE, -1);
        Keeper x = Made.onePlate(1);
        Made.reading(x, 0, 0, Made.B);
        x.answers(-1, "distance", 0, 1);
        x.answers(-1, "plateOf", 0);
        x.answers(-1, "tripOf", 0);
        x.answers(-1, "cost", 0, 0);
        x.answers(-1, "correct", 0, -1);
        x.answers(-1, "uncorrect", 0);
        Keeper late = Made.atMinute(1);
        Made.plate(late, 0, 0, Made.A);
        late.read(0, 0);
        late.answers(-1, "holder", 0, 0);
        late.answers(-1, "driverOf", 0, 0);
    }

    // ---- what there is none of

    /** A plate, a reading, a trip and a warrant, each of the number 0. */
    private static Keeper oneOfEach() {
        Keeper x = Made.onePlate(0);
        x.read(0, 0);
        x.warrant(0, 0, 0);
        return x;
    }

    private static void noSuchGate() {
        Keeper x = oneOfEach();
        for (int gate : new int[] {-1, 8}) {
            x.noIndex("road", gate, 0, 1);
            x.noIndex("road", 0, gate, 1);
            x.noIndex("distance", gate, 0);
            x.noIndex("distance", 0, gate);
            x.noIndex("read", gate, 0);
        }
    }

    private static void noSuchSign() {
        Keeper x = oneOfEach();
        for (int sign : new int[] {-1, 15}) {
            x.noIndex("spell", sign);
            x.noIndex("insert", sign, 0);
            x.noIndex("alike", sign, 0);
            x.noIndex("alike", 0, sign);
        }
    }

    private static void noSuchPlate() {
        Keeper x = oneOfEach();
        for (int plate : new int[] {-1, 1}) {
            x.noIndex("sell", plate, 0);
            x.noIndex("holder", plate, 0);
            x.noIndex("cost", 0, plate);
            x.noIndex("trips", plate);
            x.noIndex("tripsAnew", plate);
            x.noIndex("toll", plate, 0);
            x.noIndex("driverOf", plate, 0);
            x.noIndex("warrant", plate, 0, 0);
        }
        x.noIndex("correct", 0, 1);
        x.noIndex("correct", 0, -2);
    }

    private static void noSuchReading() {
        Keeper x = oneOfEach();
        for (int reading : new int[] {-1, 1}) {
            x.noIndex("correct", reading, 0);
            x.noIndex("uncorrect", reading);
            x.noIndex("plateOf", reading);
            x.noIndex("cost", reading, 0);
            x.noIndex("tripOf", reading);
        }
    }

    private static void noSuchDriver() {
        Keeper x = oneOfEach();
        x.spell(Made.B);
        for (int driver : new int[] {-1, 6}) {
            x.noIndex("register", driver, 0);
            x.noIndex("sell", 0, driver);
            x.noIndex("due", driver);
            x.noIndex("dueAnew", driver);
            x.noIndex("billed", driver);
            x.noIndex("paidBack", driver);
        }
    }

    private static void noSuchWarrant() {
        Keeper x = oneOfEach();
        for (int warrant : new int[] {-1, 1}) {
            x.noIndex("ask", warrant, 0);
            x.noIndex("stale", warrant);
        }
    }

    private static void noSuchTrip() {
        Keeper x = oneOfEach();
        for (int trip : new int[] {-1, 1}) {
            x.noIndex("toll", 0, trip);
            x.noIndex("driverOf", 0, trip);
        }
    }

    private static void anotherArgumentIsOutOfItsRange() {
        Keeper x = oneOfEach();
        x.spell(Made.B);
        x.noArgument("pass", 0);
        x.noArgument("pass", 2001);
        x.noArgument("road", 0, 1, -1);
        x.noArgument("road", 0, 1, 201);
        x.noArgument("setPause", -1);
        x.noArgument("setPause", 501);
        x.noArgument("setRate", -1, 0);
        x.noArgument("setRate", 4, 0);
        x.noArgument("setRate", 0, -1);
        x.noArgument("setRate", 0, 51);
        x.noArgument("insert", 0, -1);
        x.noArgument("insert", 0, 2);
        x.noArgument("register", 0, -1);
        x.noArgument("register", 0, 4);
        x.noArgument("holder", 0, -1);
        x.noArgument("holder", 0, 1);
        x.noArgument("read", 0, -1);
        x.noArgument("read", 0, 1);
        x.noArgument("warrant", 0, -1, 0);
        x.noArgument("warrant", 0, 0, 35);
    }

    private static void asTheMethodTells() {
        Keeper x = oneOfEach();
        x.noState("register", 0, 0);
        x.noState("uncorrect", 0);
        x.noElement("charAt", 1);
        x.noElement("plateAt", 1);
        x.noElement("ask", 0, 1);
        x.clearSpelled();
        x.noState("read", 0, 0);
        Keeper full = Made.atMinute(50000);
        Made.plate(full, 0, 0, 0, 0, 0, 0, 0, 0);
        full.noState("pass", 1);
        full.noState("spell", 0);
        full.noState("insert", 0, 0);
        for (int warrant = 0; warrant < 8; warrant++) {
            full.warrant(0, 0, 0);
        }
        full.noState("warrant", 0, 0, 0);
        full.read(0, 0);
        for (int asking = 0; asking < 40; asking++) {
            full.ask(0, 0);
        }
        full.noState("ask", 0, 0);
    }

    // ---- several apply

    private static void severalApplyToPass() {
        Keeper x = Made.atMinute(49999);
        x.noArgument("pass", 2001);
        x.noArgument("pass", FAR);
        Keeper last = Made.atMinute(50000);
        last.noArgument("pass", 2001);
        last.noArgument("pass", 0);
    }

    private static void severalApplyToRoad() {
        Keeper x = new Keeper();
        x.noIndex("road", 8, 8, 1);
        x.noIndex("road", -1, -1, 0);
        x.noIndex("road", 8, 0, 201);
        x.noIndex("road", 0, 8, -1);
        x.noIndex("road", -1, 8, FAR);
        x.noArgument("road", 0, 0, 201);
    }

    private static void severalApplyToSpell() {
        Keeper x = new Keeper();
        Made.spell(x, 0, 1, 2, 3, 4, 5);
        x.noIndex("spell", 15);
        x.noIndex("spell", -1);
        x.noState("spell", 14);
    }

    private static void severalApplyToInsert() {
        Keeper empty = new Keeper();
        empty.noIndex("insert", 15, 0);
        empty.noIndex("insert", -1, -1);
        Keeper x = new Keeper();
        Made.spell(x, 0, 1, 2, 3, 4, 5);
        x.noIndex("insert", 15, 6);
        x.noIndex("insert", -1, -1);
        x.noIndex("insert", 15, 0);
        x.noArgument("insert", 0, 6);
        x.noArgument("insert", 14, -1);
        x.noState("insert", 0, 5);
    }

    private static void severalApplyToAlike() {
        Keeper x = new Keeper();
        x.noIndex("alike", 15, 15);
        x.noIndex("alike", -1, -1);
        x.noIndex("alike", Made.MARK, 15);
        x.noIndex("alike", -1, Made.MARK);
        x.noArgument("alike", Made.MARK, Made.MARK);
    }

    private static void severalApplyToRegister() {
        Keeper x = new Keeper();
        x.noIndex("register", 6, 4);
        x.noIndex("register", -1, 0);
        x.noArgument("register", 0, 4);
        for (int plate = 0; plate < 10; plate++) {
            Made.plate(x, 0, 0, plate);
        }
        x.noIndex("register", -1, -1);
        x.noIndex("register", 6, 0);
        x.noArgument("register", 5, -1);
        x.spell(Made.MARK);
        x.noIndex("register", 6, 0);
        x.noArgument("register", 0, 4);
        x.noState("register", 0, 0);
    }

    private static void severalApplyToHolder() {
        Keeper x = Made.onePlate(5);
        x.noIndex("holder", 1, 6);
        x.noIndex("holder", -1, -1);
        x.noIndex("holder", FAR, FAR);
        x.noArgument("holder", 0, 6);
    }

    private static void severalApplyToRead() {
        Keeper x = new Keeper();
        x.noIndex("read", 8, 1);
        x.noIndex("read", -1, 0);
        x.noArgument("read", 0, 1);
        x.noState("read", 0, 0);
        x.spell(Made.A);
        x.noIndex("read", 8, 1);
        for (int reading = 0; reading < 60; reading++) {
            x.read(0, 0);
        }
        x.noIndex("read", 8, 0);
        x.noIndex("read", -1, -1);
        x.noArgument("read", 7, 1);
        x.clearSpelled();
        x.noIndex("read", 8, 1);
        x.noArgument("read", 0, -1);
        x.noState("read", 0, 0);
    }

    private static void severalApplyToUncorrect() {
        Keeper x = oneOfEach();
        x.noIndex("uncorrect", 1);
        x.noIndex("uncorrect", -1);
        x.noState("uncorrect", 0);
    }

    private static void severalApplyToWarrant() {
        Keeper x = Made.onePlate(0);
        x.noIndex("warrant", 1, -1, 35);
        x.noIndex("warrant", -1, 1, 0);
        for (int warrant = 0; warrant < 8; warrant++) {
            x.warrant(0, 0, 0);
        }
        x.noIndex("warrant", 1, 0, 0);
        x.noIndex("warrant", -1, 35, 35);
        x.noArgument("warrant", 0, 1, 0);
        x.noArgument("warrant", 0, -1, 0);
        x.noArgument("warrant", 0, 0, 35);
        x.noState("warrant", 0, 0, 0);
    }

    private static void severalApplyToAsk() {
        Keeper x = oneOfEach();
        x.noIndex("ask", 1, -1);
        x.noIndex("ask", -1, 1);
        for (int asking = 0; asking < 40; asking++) {
            x.ask(0, 0);
        }
        x.noIndex("ask", 1, 0);
        x.noIndex("ask", -1, -1);
        x.noState("ask", 0, -1);
        x.noState("ask", 0, 1);
        x.noState("ask", 0, FAR);
    }

    // ---- a call that throws changes nothing

    /** Calls that tell much, none of which throws. */
    private static final List<Told> TELLING = List.of(
        new Told("pass", 1500), new Told("road", 0, 1, 20), new Told("road", 1, 2, 30), new Told("setPause", 40),
        new Told("setRate", 1, 7), new Told("spell", 0), new Told("insert", 10, 0), new Told("mirror"),
        new Told("alike", 0, 1), new Told("register", 3, 1), new Told("read", 0, 100), new Told("spell", 14),
        new Told("clearSpelled"), new Told("spell", 1), new Told("spell", 14), new Told("read", 1, 120),
        new Told("read", 2, 1450), new Told("clearSpelled"), new Told("spell", 2), new Told("register", 0, 0),
        new Told("read", 7, 1500), new Told("sell", 0, 5), new Told("correct", 2, 1), new Told("correct", 0, 0),
        new Told("settle"), new Told("warrant", 0, 0, 1), new Told("ask", 0, 0), new Told("uncorrect", 2),
        new Told("correct", 1, NONE), new Told("settle"), new Told("warrant", 1, 1, 34), new Told("ask", 1, 0));

    /** Calls that throw behind each of those. */
    private static final List<Told> THROWING = List.of(
        new Told("pass", 0), new Told("pass", 2001), new Told("road", 0, 8, 5), new Told("road", 1, 1, 5),
        new Told("road", 0, 1, 201), new Told("distance", -1, 0), new Told("setPause", 501),
        new Told("setRate", 4, 9), new Told("setRate", 1, 51), new Told("spell", 15), new Told("insert", 15, 0),
        new Told("insert", 0, 6), new Told("charAt", 12), new Told("alike", 0, 15), new Told("alike", 0, 14),
        new Told("alike", 1, 1), new Told("register", 6, 0), new Told("register", 0, 4), new Told("sell", 0, 6),
        new Told("sell", 10, 1), new Told("plateAt", 10), new Told("holder", 10, 0), new Told("read", 8, 0),
        new Told("read", 0, 50000), new Told("correct", 60, 0), new Told("correct", 0, 10),
        new Told("uncorrect", 60), new Told("plateOf", 60), new Told("cost", 60, 0), new Told("trips", 10),
        new Told("tripsAnew", 10), new Told("tripOf", 60), new Told("toll", 0, 60), new Told("driverOf", 0, 60),
        new Told("due", 6), new Told("dueAnew", 6), new Told("billed", 6), new Told("paidBack", 6),
        new Told("warrant", 0, 1, 0), new Told("warrant", 10, 0, 0), new Told("ask", 0, 60), new Told("ask", 8, 0),
        new Told("stale", 8));

    private static void callsThatThrowChangeNothing() {
        Keeper plain = new Keeper();
        Keeper disturbed = new Keeper();
        int thrown = 0;
        for (Told told : TELLING) {
            Object want = Check.outcome(() -> plain.call(told.name, told.arguments));
            Object got = Check.outcome(() -> disturbed.call(told.name, told.arguments));
            Check.due(Keeper.written(told.name, told.arguments), got, want);
            Check.due("an exception", want instanceof String, false);
            for (int i = 0; i < 6; i++) {
                Told wrong = THROWING.get(thrown % THROWING.size());
                thrown++;
                Object outcome = Check.outcome(() -> disturbed.call(wrong.name, wrong.arguments));
                Check.due("exception of " + wrong.name, outcome instanceof String, true);
            }
        }
        Check.due("what was changed", Probe.firstChange(Probe.of(plain), Probe.of(disturbed)), Probe.NO_CHANGE);
    }
}

import java.util.NoSuchElementException;

/**
 * A road toll system with its plates and its police search: readings of cameras are led back to
 * plates, the passings of a plate are joined to trips, trips cost tolls that are billed to who held
 * the plate, and warrants ask for passings.
 *
 * <p>Trips are kept: every call that changes a reading's plate, the roads or the pause brings them
 * up to date at once, so that the asking calls need only look.
 */
public final class Tollkeeper {
    public static final int NONE = -1;

    private static final int LAST_MINUTE = 50000;
    private static final int MOST_PASSING_MINUTES = 2000;
    private static final int MINUTES_OF_A_DAY = 1440;
    private static final int LAST_DAY = 34;

    private static final int GATES = 8;
    private static final int LONGEST_ROAD = 200;
    private static final int FIRST_PAUSE = 30;
    private static final int LONGEST_PAUSE = 500;

    private static final int CLASSES = 4;
    private static final int HIGHEST_RATE = 50;
    private static final int TOLL_OF_BEGINNING = 2;

    private static final int SIGNS = 15;
    private static final int LETTERS = 10;
    private static final int QUESTION_MARK = 14;
    private static final int MOST_SIGNS = 6;
    private static final int HIGH_SURROGATE = 0xD83D;
    private static final int FIRST_LOW_SURROGATE = 0xDE90;
    private static final int COST_OF_ALIKE = 1;
    private static final int COST_OF_QUESTION_MARK = 2;

    private static final int DRIVERS = 6;
    private static final int MOST_PLATES = 10;
    private static final int MOST_READINGS = 60;
    private static final int MOST_WARRANTS = 8;
    private static final int MOST_ASKINGS = 40;
    private static final int GATE_FACTOR = 100000;

    private final Roads roads = new Roads();
    private final int[] rates = {1, 2, 4, 8};
    private final Text spelled = new Text();
    private final Likeness likeness = new Likeness();
    private final Plate[] registered = new Plate[MOST_PLATES];
    private final Plate[] ordered = new Plate[MOST_PLATES];
    private final Reading[] readings = new Reading[MOST_READINGS];
    private final Warrant[] warrants = new Warrant[MOST_WARRANTS];
    private final Answer[] answers = new Answer[MOST_ASKINGS];
    private final long[] billedTo = new long[DRIVERS];
    private final long[] paidBackTo = new long[DRIVERS];
    // One row serves every joining anew, so that asking leaves no objects behind.
    private final Passings anew = new Passings();
    private int minuteNow = 0;
    private int plateCount = 0;
    private int readingCount = 0;
    private int warrantCount = 0;
    private int answerCount = 0;

    public Tollkeeper() {
    }

    // ---- minutes, roads, rates

    public int pass(int minutes) throws IllegalArgumentException, IllegalStateException {
        if (!isWithin(minutes, 1, MOST_PASSING_MINUTES)) {
            throw new IllegalArgumentException("minutes out of range");
        }
        if (minuteNow + minutes > LAST_MINUTE) {
            throw new IllegalStateException("beyond the last minute");
        }
        minuteNow += minutes;
        return minuteNow;
    }

    public int now() {
        return minuteNow;
    }

    public int road(int gate, int other, int length)
            throws IndexOutOfBoundsException, IllegalArgumentException {
        requireGate(gate);
        requireGate(other);
        if (gate == other || !isWithin(length, 0, LONGEST_ROAD)) {
            throw new IllegalArgumentException("no such road");
        }
        int before = roads.lengthOf(gate, other);
        roads.build(gate, other, length);
        joinAllAgain();
        return before;
    }

    public int distance(int gate, int other) throws IndexOutOfBoundsException {
        requireGate(gate);
        requireGate(other);
        return roads.between(gate, other);
    }

    public int setPause(int minutes) throws IllegalArgumentException {
        if (!isWithin(minutes, 0, LONGEST_PAUSE)) {
            throw new IllegalArgumentException("pause out of range");
        }
        int before = roads.pause;
        roads.pause = minutes;
        joinAllAgain();
        return before;
    }

    public int setRate(int its, int rate) throws IllegalArgumentException {
        requireClass(its);
        if (!isWithin(rate, 0, HIGHEST_RATE)) {
            throw new IllegalArgumentException("rate out of range");
        }
        int before = rates[its];
        rates[its] = rate;
        return before;
    }

    // ---- texts

    public int spell(int sign) throws IndexOutOfBoundsException, IllegalStateException {
        requireSign(sign);
        requireRoomForSign();
        spelled.put(sign, spelled.count);
        return spelled.charCount();
    }

    public int insert(int sign, int place)
            throws IndexOutOfBoundsException, IllegalArgumentException, IllegalStateException {
        requireSign(sign);
        if (!isWithin(place, 0, spelled.count - 1)) {
            throw new IllegalArgumentException("no such place");
        }
        requireRoomForSign();
        spelled.put(sign, place);
        return spelled.charCount();
    }

    public int mirror() {
        spelled.turnRound();
        return spelled.count;
    }

    public int clearSpelled() {
        int before = spelled.count;
        spelled.count = 0;
        return before;
    }

    public char charAt(int place) throws NoSuchElementException {
        int number = spelled.charNumberAt(place);
        if (number == NONE) {
            throw new NoSuchElementException("no such char");
        }
        return (char) number;
    }

    public boolean alike(int sign, int other)
            throws IndexOutOfBoundsException, IllegalArgumentException {
        requireSign(sign);
        requireSign(other);
        if (sign == other || sign == QUESTION_MARK || other == QUESTION_MARK) {
            throw new IllegalArgumentException("these signs can't be alike");
        }
        likeness.turn(sign, other);
        leadAllBack();
        return likeness.holds(sign, other);
    }

    // ---- plates

    public int register(int driver, int its)
            throws IndexOutOfBoundsException, IllegalArgumentException, IllegalStateException {
        requireDriver(driver);
        requireClass(its);
        if (spelled.count == 0 || spelled.hasQuestionMark() || isTaken(spelled)
                || plateCount >= MOST_PLATES) {
            throw new IllegalStateException("no plate with this text");
        }
        Plate plate = new Plate(plateCount, spelled.copy(), its, new Holding(driver, minuteNow, null));
        registered[plateCount] = plate;
        putInOrder(plate);
        plateCount++;
        leadAllBack();
        return plate.number;
    }

    public int sell(int plate, int driver) throws IndexOutOfBoundsException {
        Plate sold = plateNumbered(plate);
        requireDriver(driver);
        int before = sold.newest.driver;
        sold.sellTo(driver, minuteNow);
        return before;
    }

    public int plates() {
        return plateCount;
    }

    public int plateAt(int place) throws NoSuchElementException {
        if (!isWithin(place, 0, plateCount - 1)) {
            throw new NoSuchElementException("no plate at this place");
        }
        return ordered[place].number;
    }

    public int holder(int plate, int minute)
            throws IndexOutOfBoundsException, IllegalArgumentException {
        Plate held = plateNumbered(plate);
        requireMinute(minute);
        return held.driverIn(minute);
    }

    // ---- readings

    public int read(int gate, int minute)
            throws IndexOutOfBoundsException, IllegalArgumentException, IllegalStateException {
        requireGate(gate);
        requireMinute(minute);
        if (spelled.count == 0 || readingCount >= MOST_READINGS) {
            throw new IllegalStateException("no reading of this text");
        }
        Reading reading = new Reading(readingCount, gate, minute, spelled.copy());
        readings[readingCount] = reading;
        readingCount++;
        move(reading, plateByText(reading));
        return reading.number;
    }

    public int correct(int reading, int plate) throws IndexOutOfBoundsException {
        Reading corrected = readingNumbered(reading);
        Plate right = plate == NONE ? null : plateNumbered(plate);
        int before = numberOf(corrected.plate);
        corrected.isCorrected = true;
        move(corrected, right);
        return before;
    }

    public int uncorrect(int reading) throws IndexOutOfBoundsException, IllegalStateException {
        Reading corrected = readingNumbered(reading);
        if (!corrected.isCorrected) {
            throw new IllegalStateException("not corrected");
        }
        corrected.isCorrected = false;
        move(corrected, plateByText(corrected));
        return numberOf(corrected.plate);
    }

    public int plateOf(int reading) throws IndexOutOfBoundsException {
        return numberOf(readingNumbered(reading).plate);
    }

    public int cost(int reading, int plate) throws IndexOutOfBoundsException {
        Reading read = readingNumbered(reading);
        return likeness.costOf(read.text, plateNumbered(plate).text);
    }

    // ---- trips and bills

    public int trips(int plate) throws IndexOutOfBoundsException {
        return plateNumbered(plate).passings.tripCount();
    }

    public int tripsAnew(int plate) throws IndexOutOfBoundsException {
        return joinAnew(plateNumbered(plate)).tripCount();
    }

    public int tripOf(int reading) throws IndexOutOfBoundsException {
        Reading passing = readingNumbered(reading);
        return passing.plate == null ? NONE : passing.plate.passings.tripWith(passing);
    }

    public int toll(int plate, int trip) throws IndexOutOfBoundsException {
        Plate tolled = plateNumbered(plate);
        return tollFrom(tolled.passings, requiredBeginning(tolled, trip), tolled);
    }

    public int driverOf(int plate, int trip) throws IndexOutOfBoundsException {
        Plate driven = plateNumbered(plate);
        int beginning = requiredBeginning(driven, trip);
        return driven.driverIn(driven.passings.row[beginning].minute);
    }

    public int due(int driver) throws IndexOutOfBoundsException {
        requireDriver(driver);
        return dueByKept(driver);
    }

    public int dueAnew(int driver) throws IndexOutOfBoundsException {
        requireDriver(driver);
        int sum = 0;
        for (int number = 0; number < plateCount; number++) {
            Plate plate = registered[number];
            sum += dueFor(plate, joinAnew(plate), driver);
        }
        return sum;
    }

    public int settle() {
        long back = 0;
        for (int driver = 0; driver < DRIVERS; driver++) {
            long difference = dueByKept(driver) - (billedTo[driver] - paidBackTo[driver]);
            if (difference >= 0) {
                billedTo[driver] += difference;
            } else {
                paidBackTo[driver] -= difference;
                back -= difference;
            }
        }
        return (int) back;
    }

    public long billed(int driver) throws IndexOutOfBoundsException {
        requireDriver(driver);
        return billedTo[driver];
    }

    public long paidBack(int driver) throws IndexOutOfBoundsException {
        requireDriver(driver);
        return paidBackTo[driver];
    }

    // ---- warrants

    public int warrant(int plate, int from, int to)
            throws IndexOutOfBoundsException, IllegalArgumentException, IllegalStateException {
        Plate searched = plateNumbered(plate);
        if (!isWithin(from, 0, LAST_DAY) || !isWithin(to, from, LAST_DAY)) {
            throw new IllegalArgumentException("days out of range");
        }
        if (warrantCount >= MOST_WARRANTS) {
            throw new IllegalStateException("no more warrants");
        }
        warrants[warrantCount] = new Warrant(warrantCount, searched.passings, from, to);
        warrantCount++;
        return warrantCount - 1;
    }

    public int ask(int warrant, int place)
            throws IndexOutOfBoundsException, IllegalStateException, NoSuchElementException {
        Warrant asked = warrantNumbered(warrant);
        if (answerCount >= MOST_ASKINGS) {
            throw new IllegalStateException("no more askings");
        }
        Reading shown = asked.shownAt(place);
        if (shown == null) {
            throw new NoSuchElementException("no passing at this place");
        }
        answers[answerCount] = new Answer(asked.number, place, shown.gate, shown.minute);
        answerCount++;
        return GATE_FACTOR * shown.gate + shown.minute;
    }

    public int stale(int warrant) throws IndexOutOfBoundsException {
        Warrant asked = warrantNumbered(warrant);
        int count = 0;
        for (int i = 0; i < answerCount; i++) {
            Answer answer = answers[i];
            if (answer.warrant == asked.number && !answer.tells(asked.shownAt(answer.place))) {
                count++;
            }
        }
        return count;
    }

    // ---- what arguments may be

    private static boolean isWithin(int value, int least, int most) {
        return least <= value && value <= most;
    }

    private static void requireGate(int gate) {
        if (!isWithin(gate, 0, GATES - 1)) {
            throw new IndexOutOfBoundsException("no such gate");
        }
    }

    private static void requireSign(int sign) {
        if (!isWithin(sign, 0, SIGNS - 1)) {
            throw new IndexOutOfBoundsException("no such sign");
        }
    }

    private static void requireDriver(int driver) {
        if (!isWithin(driver, 0, DRIVERS - 1)) {
            throw new IndexOutOfBoundsException("no such driver");
        }
    }

    private static void requireClass(int its) {
        if (!isWithin(its, 0, CLASSES - 1)) {
            throw new IllegalArgumentException("no such class");
        }
    }

    private void requireMinute(int minute) {
        if (!isWithin(minute, 0, minuteNow)) {
            throw new IllegalArgumentException("minute out of range");
        }
    }

    private void requireRoomForSign() {
        if (spelled.count >= MOST_SIGNS) {
            throw new IllegalStateException("the text has all its signs");
        }
    }

    private Plate plateNumbered(int number) {
        if (!isWithin(number, 0, plateCount - 1)) {
            throw new IndexOutOfBoundsException("no such plate");
        }
        return registered[number];
    }

    private Reading readingNumbered(int number) {
        if (!isWithin(number, 0, readingCount - 1)) {
            throw new IndexOutOfBoundsException("no such reading");
        }
        return readings[number];
    }

    private Warrant warrantNumbered(int number) {
        if (!isWithin(number, 0, warrantCount - 1)) {
            throw new IndexOutOfBoundsException("no such warrant");
        }
        return warrants[number];
    }

    private static int requiredBeginning(Plate plate, int trip) {
        int place = plate.passings.beginningOf(trip);
        if (place == NONE) {
            throw new IndexOutOfBoundsException("no such trip");
        }
        return place;
    }

    // ---- plates and readings

    private static int numberOf(Plate plate) {
        return plate == null ? NONE : plate.number;
    }

    private boolean isTaken(Text text) {
        for (int number = 0; number < plateCount; number++) {
            if (registered[number].text.equalsText(text)) {
                return true;
            }
        }
        return false;
    }

    private void putInOrder(Plate plate) {
        int place = plateCount;
        while (place > 0 && plate.text.comesBefore(ordered[place - 1].text)) {
            ordered[place] = ordered[place - 1];
            place--;
        }
        ordered[place] = plate;
    }

    private Plate plateByText(Reading reading) {
        Plate best = null;
        int least = 0;
        for (int place = 0; place < plateCount; place++) {
            Plate plate = ordered[place];
            int sum = likeness.costOf(reading.text, plate.text);
            if (sum != NONE && (best == null || sum < least)) {
                best = plate;
                least = sum;
            }
        }
        return best;
    }

    private void leadAllBack() {
        for (int number = 0; number < readingCount; number++) {
            Reading reading = readings[number];
            if (!reading.isCorrected) {
                move(reading, plateByText(reading));
            }
        }
    }

    private void move(Reading reading, Plate plate) {
        if (numberOf(reading.plate) == numberOf(plate)) {
            return;
        }
        if (reading.plate != null) {
            reading.plate.passings.take(reading, roads);
        }
        reading.plate = plate;
        if (plate != null) {
            plate.passings.put(reading, roads);
        }
    }

    // ---- trips and tolls

    private void joinAllAgain() {
        for (int number = 0; number < plateCount; number++) {
            registered[number].passings.joinAll(roads);
        }
    }

    private Passings joinAnew(Plate plate) {
        anew.count = 0;
        for (int number = 0; number < readingCount; number++) {
            Reading reading = readings[number];
            if (numberOf(reading.plate) == plate.number) {
                anew.insertInOrder(reading);
            }
        }
        anew.joinAll(roads);
        return anew;
    }

    private int dueByKept(int driver) {
        int sum = 0;
        for (int number = 0; number < plateCount; number++) {
            Plate plate = registered[number];
            sum += dueFor(plate, plate.passings, driver);
        }
        return sum;
    }

    private int dueFor(Plate plate, Passings passings, int driver) {
        int sum = 0;
        for (int place = 0; place < passings.count; place++) {
            if (passings.begins[place] && plate.driverIn(passings.row[place].minute) == driver) {
                sum += tollFrom(passings, place, plate);
            }
        }
        return sum;
    }

    private int tollFrom(Passings passings, int beginning, Plate plate) {
        return rates[plate.its] * (passings.wayFrom(beginning, roads) + TOLL_OF_BEGINNING);
    }

    /** The roads, the distances by them, and the pause, which together tell where trips part. */
    private static final class Roads {
        private final int[][] lengths = new int[GATES][GATES];
        private final int[][] distances = new int[GATES][GATES];
        private final boolean[] isDone = new boolean[GATES];
        int pause = FIRST_PAUSE;

        Roads() {
            measureAll();
        }

        int lengthOf(int gate, int other) {
            return lengths[gate][other];
        }

        void build(int gate, int other, int length) {
            lengths[gate][other] = length;
            lengths[other][gate] = length;
            measureAll();
        }

        int between(int gate, int other) {
            return distances[gate][other];
        }

        boolean isOneTrip(Reading ahead, Reading behind) {
            int way = between(ahead.gate, behind.gate);
            int minutes = behind.minute - ahead.minute;
            return way != NONE && minutes <= 2 * way + pause && 4 * minutes >= way;
        }

        // Asking for a distance is far more common than building a road.
        private void measureAll() {
            for (int gate = 0; gate < GATES; gate++) {
                measureFrom(gate);
            }
        }

        private void measureFrom(int start) {
            int[] ways = distances[start];
            for (int gate = 0; gate < GATES; gate++) {
                ways[gate] = NONE;
                isDone[gate] = false;
            }
            ways[start] = 0;
            for (int round = 0; round < GATES; round++) {
                int gate = nearestOpen(ways);
                if (gate == NONE) {
                    return;
                }
                isDone[gate] = true;
                goOnFrom(gate, ways);
            }
        }

        private int nearestOpen(int[] ways) {
            int nearest = NONE;
            for (int gate = 0; gate < GATES; gate++) {
                if (!isDone[gate] && ways[gate] != NONE
                        && (nearest == NONE || ways[gate] < ways[nearest])) {
                    nearest = gate;
                }
            }
            return nearest;
        }

        private void goOnFrom(int gate, int[] ways) {
            for (int next = 0; next < GATES; next++) {
                int length = lengths[gate][next];
                int way = ways[gate] + length;
                if (length != 0 && (ways[next] == NONE || way < ways[next])) {
                    ways[next] = way;
                }
            }
        }
    }

    /** Signs in a row; numbers and no String, since a String here must not hold surrogates. */
    private static final class Text {
        private final int[] signs = new int[MOST_SIGNS];
        int count = 0;

        void put(int sign, int place) {
            for (int i = count; i > place; i--) {
                signs[i] = signs[i - 1];
            }
            signs[place] = sign;
            count++;
        }

        void turnRound() {
            int last = count - 1;
            for (int first = 0; first < last; first++) {
                int sign = signs[first];
                signs[first] = signs[last];
                signs[last] = sign;
                last--;
            }
        }

        Text copy() {
            Text copy = new Text();
            for (int i = 0; i < count; i++) {
                copy.signs[i] = signs[i];
            }
            copy.count = count;
            return copy;
        }

        boolean hasQuestionMark() {
            for (int i = 0; i < count; i++) {
                if (signs[i] == QUESTION_MARK) {
                    return true;
                }
            }
            return false;
        }

        boolean equalsText(Text other) {
            if (count != other.count) {
                return false;
            }
            for (int i = 0; i < count; i++) {
                if (signs[i] != other.signs[i]) {
                    return false;
                }
            }
            return true;
        }

        // Signs may be compared for their chars: in a plate's text the numbers of signs rise with
        // those of their chars, and no sign's chars are the beginning of another sign's.
        boolean comesBefore(Text other) {
            int common = Math.min(count, other.count);
            for (int back = 1; back <= common; back++) {
                int mine = signs[count - back];
                int theirs = other.signs[other.count - back];
                if (mine != theirs) {
                    return mine < theirs;
                }
            }
            return count < other.count;
        }

        int charCount() {
            int chars = 0;
            for (int i = 0; i < count; i++) {
                chars += charsOf(signs[i]);
            }
            return chars;
        }

        int charNumberAt(int place) {
            int chars = 0;
            for (int i = 0; i < count && place >= chars; i++) {
                int ahead = chars;
                chars += charsOf(signs[i]);
                if (place < chars) {
                    return charNumberOf(signs[i], place - ahead);
                }
            }
            return NONE;
        }

        private static boolean isPair(int sign) {
            return sign >= LETTERS && sign < QUESTION_MARK;
        }

        private static int charsOf(int sign) {
            return isPair(sign) ? 2 : 1;
        }

        private static int charNumberOf(int sign, int half) {
            if (sign == QUESTION_MARK) {
                return '?';
            }
            if (!isPair(sign)) {
                return 'A' + sign;
            }
            return half == 0 ? HIGH_SURROGATE : FIRST_LOW_SURROGATE + sign - LETTERS;
        }
    }

    /** Which signs are alike: a bit of a sign's mask for each other sign. */
    private static final class Likeness {
        private final int[] masks = new int[SIGNS];

        void turn(int sign, int other) {
            masks[sign] ^= 1 << other;
            masks[other] ^= 1 << sign;
        }

        boolean holds(int sign, int other) {
            return (masks[sign] >> other & 1) == 1;
        }

        int costOf(Text reading, Text plate) {
            if (reading.count != plate.count) {
                return NONE;
            }
            int sum = 0;
            for (int i = 0; i < reading.count; i++) {
                int part = costOfSign(reading.signs[i], plate.signs[i]);
                if (part == NONE) {
                    return NONE;
                }
                sum += part;
            }
            return sum;
        }

        private int costOfSign(int read, int right) {
            if (read == right) {
                return 0;
            }
            if (read == QUESTION_MARK) {
                return COST_OF_QUESTION_MARK;
            }
            return holds(read, right) ? COST_OF_ALIKE : NONE;
        }
    }

    /** A driver's holding of a plate, with the one before it. */
    private static final class Holding {
        final int driver;
        final int since;
        final Holding before;

        Holding(int driver, int since, Holding before) {
            this.driver = driver;
            this.since = since;
            this.before = before;
        }
    }

    private static final class Plate {
        final int number;
        final Text text;
        final int its;
        final Passings passings = new Passings();
        Holding newest;

        Plate(int number, Text text, int its, Holding first) {
            this.number = number;
            this.text = text;
            this.its = its;
            this.newest = first;
        }

        void sellTo(int driver, int minute) {
            Holding before = newest.since == minute ? newest.before : newest;
            newest = new Holding(driver, minute, before);
        }

        int driverIn(int minute) {
            for (Holding holding = newest; holding != null; holding = holding.before) {
                if (holding.since <= minute) {
                    return holding.driver;
                }
            }
            return NONE;
        }
    }

    private static final class Reading {
        final int number;
        final int gate;
        final int minute;
        final Text text;
        boolean isCorrected = false;
        Plate plate = null;

        Reading(int number, int gate, int minute, Text text) {
            this.number = number;
            this.gate = gate;
            this.minute = minute;
            this.text = text;
        }

        boolean isAheadOf(Reading other) {
            return minute < other.minute || minute == other.minute && number < other.number;
        }
    }

    /** The passings of a plate in their order, each with whether it begins a trip. */
    private static final class Passings {
        final Reading[] row = new Reading[MOST_READINGS];
        final boolean[] begins = new boolean[MOST_READINGS];
        int count = 0;

        void put(Reading reading, Roads roads) {
            int place = insertInOrder(reading);
            seeBeginning(place, roads);
            seeBeginning(place + 1, roads);
        }

        void take(Reading reading, Roads roads) {
            int place = placeOf(reading);
            if (place == NONE) {
                return;
            }
            count--;
            for (int i = place; i < count; i++) {
                row[i] = row[i + 1];
                begins[i] = begins[i + 1];
            }
            seeBeginning(place, roads);
        }

        int insertInOrder(Reading reading) {
            int place = count;
            while (place > 0 && reading.isAheadOf(row[place - 1])) {
                row[place] = row[place - 1];
                begins[place] = begins[place - 1];
                place--;
            }
            row[place] = reading;
            count++;
            return place;
        }

        void joinAll(Roads roads) {
            for (int place = 0; place < count; place++) {
                seeBeginning(place, roads);
            }
        }

        int tripCount() {
            return beginningsAhead(count);
        }

        int tripWith(Reading reading) {
            return beginningsAhead(placeOf(reading) + 1) - 1;
        }

        int beginningOf(int trip) {
            int trips = 0;
            for (int place = 0; place < count; place++) {
                if (begins[place]) {
                    if (trips == trip) {
                        return place;
                    }
                    trips++;
                }
            }
            return NONE;
        }

        int wayFrom(int beginning, Roads roads) {
            int way = 0;
            for (int place = beginning + 1; place < count && !begins[place]; place++) {
                way += roads.between(row[place - 1].gate, row[place].gate);
            }
            return way;
        }

        private void seeBeginning(int place, Roads roads) {
            if (place < count) {
                begins[place] = place == 0 || !roads.isOneTrip(row[place - 1], row[place]);
            }
        }

        private int placeOf(Reading reading) {
            for (int place = 0; place < count; place++) {
                if (row[place].number == reading.number) {
                    return place;
                }
            }
            return NONE;
        }

        private int beginningsAhead(int end) {
            int beginnings = 0;
            for (int place = 0; place < end; place++) {
                if (begins[place]) {
                    beginnings++;
                }
            }
            return beginnings;
        }
    }

    private static final class Warrant {
        final int number;
        private final Passings passings;
        private final int from;
        private final int to;

        Warrant(int number, Passings passings, int from, int to) {
            this.number = number;
            this.passings = passings;
            this.from = from;
            this.to = to;
        }

        Reading shownAt(int wanted) {
            int shown = 0;
            boolean isShown = false;
            for (int place = 0; place < passings.count; place++) {
                Reading passing = passings.row[place];
                if (passings.begins[place]) {
                    isShown = isWithin(passing.minute / MINUTES_OF_A_DAY, from, to);
                }
                if (isShown && shown == wanted) {
                    return passing;
                }
                if (isShown) {
                    shown++;
                }
            }
            return null;
        }
    }

    /** An answer keeps what was told and no passing, since passings may go on to other plates. */
    private static final class Answer {
        final int warrant;
        final int place;
        private final int gate;
        private final int minute;

        Answer(int warrant, int place, int gate, int minute) {
            this.warrant = warrant;
            this.place = place;
            this.gate = gate;
            this.minute = minute;
        }

        boolean tells(Reading shown) {
            return shown != null && shown.gate == gate && shown.minute == minute;
        }
    }
}

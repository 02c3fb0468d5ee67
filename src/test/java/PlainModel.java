import java.util.ArrayList;
import java.util.Arrays;
import java.util.Comparator;
import java.util.List;
import java.util.NoSuchElementException;
import java.util.TreeMap;

/** The document once more, without anything kept that could be worked out: for comparing answers. */
final class PlainModel {
    private static final int NONE = -1;
    private static final int FAR = 1_000_000;

    private static final class Plate {
        String text;
        int its;
        TreeMap<Integer, Integer> drivers = new TreeMap<>();
    }

    private static final class Reading {
        int number;
        int gate;
        int minute;
        String text;
        boolean isCorrected;
        int correction;
    }

    private static final class Warrant {
        int plate;
        int from;
        int to;
        List<int[]> answers = new ArrayList<>();
    }

    private int now = 0;
    private int pause = 30;
    private final int[] rates = {1, 2, 4, 8};
    private final int[][] roads = new int[8][8];
    private final boolean[][] alike = new boolean[15][15];
    private final List<Integer> spelled = new ArrayList<>();
    private final List<Plate> plates = new ArrayList<>();
    private final List<Reading> readings = new ArrayList<>();
    private final List<Warrant> warrants = new ArrayList<>();
    private final long[] billed = new long[6];
    private final long[] paidBack = new long[6];

    private static void index(boolean isGood) {
        if (!isGood) {
            throw new IndexOutOfBoundsException();
        }
    }

    private static void argument(boolean isGood) {
        if (!isGood) {
            throw new IllegalArgumentException();
        }
    }

    private static void state(boolean isGood) {
        if (!isGood) {
            throw new IllegalStateException();
        }
    }

    private static void element(boolean isGood) {
        if (!isGood) {
            throw new NoSuchElementException();
        }
    }

    int pass(int minutes) {
        argument(minutes >= 1 && minutes <= 2000);
        state(now + minutes <= 50000);
        return now += minutes;
    }

    int now() {
        return now;
    }

    int road(int gate, int other, int length) {
        index(gate >= 0 && gate < 8 && other >= 0 && other < 8);
        argument(gate != other && length >= 0 && length <= 200);
        int before = roads[gate][other];
        roads[gate][other] = length;
        roads[other][gate] = length;
        return before;
    }

    int distance(int gate, int other) {
        index(gate >= 0 && gate < 8 && other >= 0 && other < 8);
        int[][] ways = new int[8][8];
        for (int i = 0; i < 8; i++) {
            for (int j = 0; j < 8; j++) {
                ways[i][j] = i == j ? 0 : roads[i][j] == 0 ? FAR : roads[i][j];
            }
        }
        for (int k = 0; k < 8; k++) {
            for (int i = 0; i < 8; i++) {
                for (int j = 0; j < 8; j++) {
                    ways[i][j] = Math.min(ways[i][j], ways[i][k] + ways[k][j]);
                }
            }
        }
        return ways[gate][other] >= FAR ? NONE : ways[gate][other];
    }

    int setPause(int minutes) {
        argument(minutes >= 0 && minutes <= 500);
        int before = pause;
        pause = minutes;
        return before;
    }

    int setRate(int its, int rate) {
        argument(its >= 0 && its < 4 && rate >= 0 && rate <= 50);
        int before = rates[its];
        rates[its] = rate;
        return before;
    }

    private String text() {
        StringBuilder text = new StringBuilder();
        for (int sign : spelled) {
            text.appendCodePoint(sign < 10 ? 'A' + sign : sign < 14 ? 0x1F690 + sign - 10 : '?');
        }
        return text.toString();
    }

    private static int signOf(int point) {
        return point == '?' ? 14 : point < 128 ? point - 'A' : point - 0x1F690 + 10;
    }

    int spell(int sign) {
        index(sign >= 0 && sign < 15);
        state(spelled.size() < 6);
        spelled.add(sign);
        return text().length();
    }

    int insert(int sign, int place) {
        index(sign >= 0 && sign < 15);
        argument(place >= 0 && place < spelled.size());
        state(spelled.size() < 6);
        spelled.add(place, sign);
        return text().length();
    }

    int mirror() {
        java.util.Collections.reverse(spelled);
        return spelled.size();
    }

    int clearSpelled() {
        int before = spelled.size();
        spelled.clear();
        return before;
    }

    char charAt(int place) {
        element(place >= 0 && place < text().length());
        return text().charAt(place);
    }

    boolean alike(int sign, int other) {
        index(sign >= 0 && sign < 15 && other >= 0 && other < 15);
        argument(sign != other && sign != 14 && other != 14);
        alike[sign][other] = !alike[sign][other];
        alike[other][sign] = alike[sign][other];
        return alike[sign][other];
    }

    int register(int driver, int its) {
        index(driver >= 0 && driver < 6);
        argument(its >= 0 && its < 4);
        String text = text();
        state(!text.isEmpty() && !text.contains("?") && plates.size() < 10);
        state(plates.stream().noneMatch(plate -> plate.text.equals(text)));
        Plate plate = new Plate();
        plate.text = text;
        plate.its = its;
        plate.drivers.put(now, driver);
        plates.add(plate);
        return plates.size() - 1;
    }

    private Plate plate(int number) {
        index(number >= 0 && number < plates.size());
        return plates.get(number);
    }

    int sell(int plate, int driver) {
        Plate its = plate(plate);
        index(driver >= 0 && driver < 6);
        int before = its.drivers.lastEntry().getValue();
        its.drivers.put(now, driver);
        return before;
    }

    int plates() {
        return plates.size();
    }

    private List<Integer> order() {
        List<Integer> order = new ArrayList<>();
        for (int i = 0; i < plates.size(); i++) {
            order.add(i);
        }
        // StringBuilder.reverse keeps pairs of surrogates as they are.
        order.sort(Comparator.comparing(i -> new StringBuilder(plates.get(i).text).reverse().toString()));
        return order;
    }

    int plateAt(int place) {
        element(place >= 0 && place < plates.size());
        return order().get(place);
    }

    int holder(int plate, int minute) {
        Plate its = plate(plate);
        argument(minute >= 0 && minute <= now);
        return holderOf(its, minute);
    }

    private static int holderOf(Plate plate, int minute) {
        var entry = plate.drivers.floorEntry(minute);
        return entry == null ? NONE : entry.getValue();
    }

    int read(int gate, int minute) {
        index(gate >= 0 && gate < 8);
        argument(minute >= 0 && minute <= now);
        state(!spelled.isEmpty() && readings.size() < 60);
        Reading reading = new Reading();
        reading.number = readings.size();
        reading.gate = gate;
        reading.minute = minute;
        reading.text = text();
        readings.add(reading);
        return reading.number;
    }

    private Reading reading(int number) {
        index(number >= 0 && number < readings.size());
        return readings.get(number);
    }

    int correct(int reading, int plate) {
        Reading its = reading(reading);
        index(plate >= NONE && plate < plates.size());
        int before = plateOf(reading);
        its.isCorrected = true;
        its.correction = plate;
        return before;
    }

    int uncorrect(int reading) {
        Reading its = reading(reading);
        state(its.isCorrected);
        its.isCorrected = false;
        return plateOf(reading);
    }

    int plateOf(int reading) {
        Reading its = reading(reading);
        if (its.isCorrected) {
            return its.correction;
        }
        int best = NONE;
        for (int plate : order()) {
            int cost = cost(reading, plate);
            if (cost != NONE && (best == NONE || cost < cost(reading, best))) {
                best = plate;
            }
        }
        return best;
    }

    int cost(int reading, int plate) {
        int[] read = reading(reading).text.codePoints().toArray();
        int[] right = plate(plate).text.codePoints().toArray();
        if (read.length != right.length) {
            return NONE;
        }
        int sum = 0;
        for (int i = 0; i < read.length; i++) {
            if (read[i] == '?') {
                sum += 2;
            } else if (alike[signOf(read[i])][signOf(right[i])]) {
                sum += 1;
            } else if (read[i] != right[i]) {
                return NONE;
            }
        }
        return sum;
    }

    private List<List<Reading>> tripsOf(int plate) {
        List<Reading> passings = new ArrayList<>();
        for (Reading reading : readings) {
            if (plateOf(reading.number) == plate) {
                passings.add(reading);
            }
        }
        passings.sort(Comparator.comparingInt((Reading r) -> r.minute).thenComparingInt(r -> r.number));
        List<List<Reading>> trips = new ArrayList<>();
        Reading ahead = null;
        for (Reading passing : passings) {
            if (ahead == null || parts(ahead, passing)) {
                trips.add(new ArrayList<>());
            }
            trips.get(trips.size() - 1).add(passing);
            ahead = passing;
        }
        return trips;
    }

    private boolean parts(Reading ahead, Reading passing) {
        int distance = distance(ahead.gate, passing.gate);
        int minutes = passing.minute - ahead.minute;
        return distance == NONE || minutes > 2 * distance + pause || 4 * minutes < distance;
    }

    int trips(int plate) {
        plate(plate);
        return tripsOf(plate).size();
    }

    int tripOf(int reading) {
        Reading its = reading(reading);
        int plate = plateOf(reading);
        if (plate == NONE) {
            return NONE;
        }
        List<List<Reading>> trips = tripsOf(plate);
        for (int trip = 0; trip < trips.size(); trip++) {
            if (trips.get(trip).contains(its)) {
                return trip;
            }
        }
        throw new AssertionError("a reading of a plate without a trip");
    }

    private List<Reading> trip(int plate, int trip) {
        plate(plate);
        List<List<Reading>> trips = tripsOf(plate);
        index(trip >= 0 && trip < trips.size());
        return trips.get(trip);
    }

    int toll(int plate, int trip) {
        return tollOf(plate, trip(plate, trip));
    }

    private int tollOf(int plate, List<Reading> passings) {
        int sum = 2;
        for (int i = 1; i < passings.size(); i++) {
            sum += distance(passings.get(i - 1).gate, passings.get(i).gate);
        }
        return rates[plate(plate).its] * sum;
    }

    int driverOf(int plate, int trip) {
        return holderOf(plate(plate), trip(plate, trip).get(0).minute);
    }

    int due(int driver) {
        index(driver >= 0 && driver < 6);
        int sum = 0;
        for (int plate = 0; plate < plates.size(); plate++) {
            for (List<Reading> passings : tripsOf(plate)) {
                if (holderOf(plate(plate), passings.get(0).minute) == driver) {
                    sum += tollOf(plate, passings);
                }
            }
        }
        return sum;
    }

    int settle() {
        int back = 0;
        for (int driver = 0; driver < 6; driver++) {
            long more = due(driver) - (billed[driver] - paidBack[driver]);
            billed[driver] += Math.max(0, more);
            paidBack[driver] += Math.max(0, -more);
            back += Math.max(0, -more);
        }
        return back;
    }

    long billed(int driver) {
        index(driver >= 0 && driver < 6);
        return billed[driver];
    }

    long paidBack(int driver) {
        index(driver >= 0 && driver < 6);
        return paidBack[driver];
    }

    int warrant(int plate, int from, int to) {
        plate(plate);
        argument(from >= 0 && from <= to && to <= 34);
        state(warrants.size() < 8);
        Warrant warrant = new Warrant();
        warrant.plate = plate;
        warrant.from = from;
        warrant.to = to;
        warrants.add(warrant);
        return warrants.size() - 1;
    }

    private int[] shown(Warrant warrant, int place) {
        List<int[]> shown = new ArrayList<>();
        for (List<Reading> passings : tripsOf(warrant.plate)) {
            int day = passings.get(0).minute / 1440;
            for (Reading passing : passings) {
                if (day >= warrant.from && day <= warrant.to) {
                    shown.add(new int[] {place, passing.gate, passing.minute});
                }
            }
        }
        return place >= 0 && place < shown.size() ? shown.get(place) : null;
    }

    private Warrant warrant(int number) {
        index(number >= 0 && number < warrants.size());
        return warrants.get(number);
    }

    int ask(int warrant, int place) {
        Warrant its = warrant(warrant);
        state(warrants.stream().mapToInt(w -> w.answers.size()).sum() < 40);
        int[] answer = shown(its, place);
        element(answer != null);
        its.answers.add(answer);
        return 100000 * answer[1] + answer[2];
    }

    int stale(int warrant) {
        Warrant its = warrant(warrant);
        int count = 0;
        for (int[] answer : its.answers) {
            count += Arrays.equals(answer, shown(its, answer[0])) ? 0 : 1;
        }
        return count;
    }
}

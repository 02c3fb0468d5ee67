/** Promises 2 to 7. */
public final class MinutesRoadsRatesTest {
    private static final int[] OUT_OF_GATES = {-1, 8, Integer.MIN_VALUE, Integer.MAX_VALUE};

    public static void main(String[] args) {
        passAddsMinutes();
        passEndsAtTheLastMinute();
        roadTellsItsLengthBefore();
        roadRefuses();
        distanceIsTheLeastSum();
        distanceFollowsRoads();
        pauseIsSet();
        ratesAreSet();
        Check.end();
    }

    private static void passAddsMinutes() {
        Keeper x = new Keeper();
        Check.due("pass(1)", x.pass(1), 1);
        Check.due("pass(2000)", x.pass(2000), 2001);
        Check.due("now", x.now(), 2001);
        for (int minutes : new int[] {0, -1, 2001, Integer.MIN_VALUE, Integer.MAX_VALUE}) {
            Check.noArgument(x, "pass(" + minutes + ")", () -> x.pass(minutes));
        }
    }

    private static void passEndsAtTheLastMinute() {
        Keeper x = new Keeper();
        for (int i = 0; i < 24; i++) {
            x.pass(2000);
        }
        x.pass(1999);
        Check.noState(x, "pass(2) at 49999", () -> x.pass(2));
        Check.due("pass(1) at 49999", x.pass(1), 50000);
        Check.noState(x, "pass(1) at 50000", () -> x.pass(1));
        Check.noState(x, "pass(2000) at 50000", () -> x.pass(2000));
        Check.noArgument(x, "pass(2001) at 50000", () -> x.pass(2001));
        Check.due("now", x.now(), 50000);
    }

    private static void roadTellsItsLengthBefore() {
        Keeper x = new Keeper();
        Check.due("road(0, 7, 200)", x.road(0, 7, 200), 0);
        Check.due("road(7, 0, 1)", x.road(7, 0, 1), 200);
        Check.due("road(0, 7, 0)", x.road(0, 7, 0), 1);
        Check.due("road(0, 7, 0) again", x.road(0, 7, 0), 0);
        Check.due("distance(0, 7)", x.distance(0, 7), Tollkeeper.NONE);
    }

    private static void roadRefuses() {
        Keeper x = new Keeper();
        x.road(0, 1, 5);
        for (int gate : OUT_OF_GATES) {
            Check.noIndex(x, "road of gate " + gate, () -> x.road(gate, 0, 5));
            Check.noIndex(x, "road to gate " + gate, () -> x.road(0, gate, 5));
            Check.noIndex(x, "road of gate to itself " + gate, () -> x.road(gate, gate, -1));
            Check.noIndex(x, "distance from " + gate, () -> x.distance(gate, 0));
            Check.noIndex(x, "distance to " + gate, () -> x.distance(0, gate));
        }
        Check.noArgument(x, "road(3, 3, 5)", () -> x.road(3, 3, 5));
        Check.noArgument(x, "road(3, 3, 0)", () -> x.road(3, 3, 0));
        for (int length : new int[] {-1, 201, Integer.MIN_VALUE, Integer.MAX_VALUE}) {
            Check.noArgument(x, "road of length " + length, () -> x.road(0, 1, length));
        }
        Check.due("the length that stayed", x.road(0, 1, 5), 5);
    }

    private static void distanceIsTheLeastSum() {
        Keeper x = new Keeper();
        x.road(0, 1, 200);
        x.road(0, 2, 10);
        x.road(2, 3, 10);
        x.road(3, 1, 10);
        x.road(3, 4, 200);
        x.road(6, 7, 3);
        Check.due("distance(0, 1)", x.distance(0, 1), 30);
        Check.due("distance(1, 0)", x.distance(1, 0), 30);
        Check.due("distance(0, 4)", x.distance(0, 4), 220);
        Check.due("distance(4, 1)", x.distance(4, 1), 210);
        Check.due("distance(0, 5)", x.distance(0, 5), Tollkeeper.NONE);
        Check.due("distance(0, 6)", x.distance(0, 6), Tollkeeper.NONE);
        Check.due("distance(7, 6)", x.distance(7, 6), 3);
        Check.due("distance(5, 5)", x.distance(5, 5), 0);
    }

    private static void distanceFollowsRoads() {
        Keeper x = new Keeper();
        int[] way = {3, 7, 0, 5, 1, 6, 2, 4};
        for (int i = 0; i < 7; i++) {
            x.road(way[i], way[i + 1], 200);
        }
        Check.due("the longest way", x.distance(3, 4), 1400);
        x.road(3, 4, 199);
        Check.due("by a new road", x.distance(3, 4), 199);
        Check.due("round the other way", x.distance(7, 2), 200 + 199 + 200);
        x.road(3, 4, 0);
        Check.due("without that road", x.distance(3, 4), 1400);
        x.road(5, 1, 0);
        Check.due("parted", x.distance(3, 4), Tollkeeper.NONE);
        Check.due("on one side", x.distance(3, 5), 600);
    }

    private static void pauseIsSet() {
        Keeper x = new Keeper();
        Check.due("setPause(500)", x.setPause(500), 30);
        Check.due("setPause(0)", x.setPause(0), 500);
        for (int minutes : new int[] {-1, 501, Integer.MIN_VALUE, Integer.MAX_VALUE}) {
            Check.noArgument(x, "setPause(" + minutes + ")", () -> x.setPause(minutes));
        }
        Check.due("setPause(1)", x.setPause(1), 0);
    }

    private static void ratesAreSet() {
        Keeper x = new Keeper();
        Check.due("rate 0", x.setRate(0, 50), 1);
        Check.due("rate 1", x.setRate(1, 0), 2);
        Check.due("rate 2", x.setRate(2, 7), 4);
        Check.due("rate 3", x.setRate(3, 9), 8);
        for (int its : new int[] {-1, 4, Integer.MIN_VALUE, Integer.MAX_VALUE}) {
            Check.noArgument(x, "setRate of class " + its, () -> x.setRate(its, 1));
        }
        for (int rate : new int[] {-1, 51, Integer.MIN_VALUE, Integer.MAX_VALUE}) {
            Check.noArgument(x, "setRate to " + rate, () -> x.setRate(3, rate));
        }
        Check.due("rate 0 then", x.setRate(0, 1), 50);
        Check.due("rate 1 then", x.setRate(1, 1), 0);
        Check.due("rate 2 then", x.setRate(2, 1), 7);
        Check.due("rate 3 then", x.setRate(3, 1), 9);
    }
}

import java.util.stream.IntStream;

/** Steps that many tests begin with. */
final class Made {
    static final int A = 0;
    static final int B = 1;
    static final int C = 2;
    static final int J = 9;
    static final int CAR = 10;
    static final int LAST_CAR = 13;
    static final int MARK = 14;
    static final int LAST_MINUTE = 50000;
    static final int LONGEST_ROAD = 200;

    private Made() {
    }

    static void spell(Keeper x, int... signs) {
        x.clearSpelled();
        for (int sign : signs) {
            x.spell(sign);
        }
    }

    static int plate(Keeper x, int driver, int its, int... signs) {
        spell(x, signs);
        return x.register(driver, its);
    }

    static int reading(Keeper x, int gate, int minute, int... signs) {
        spell(x, signs);
        return x.read(gate, minute);
    }

    static void passTo(Keeper x, int minute) {
        for (int now = x.now(); now < minute; now = x.pass(Math.min(2000, minute - now))) {
            continue;
        }
    }

    static Keeper atMinute(int minute) {
        Keeper x = new Keeper();
        passTo(x, minute);
        return x;
    }

    /** The minute 2000, the roads 0-1 of 20 and 1-2 of 30, and the plate 0, A, of driver 0 and class 1 from the minute 0 on. */
    static Keeper oneRoadAndPlate() {
        Keeper x = new Keeper();
        plate(x, 0, 1, A);
        x.pass(2000);
        x.road(0, 1, 20);
        x.road(1, 2, 30);
        return x;
    }

    /** The plate 0, A, of driver 0 and class 0 from the minute 0 on, at a later minute, without roads. */
    static Keeper onePlate(int minute) {
        Keeper x = new Keeper();
        plate(x, 0, 0, A);
        passTo(x, minute);
        return x;
    }

    /** Roads by which the gates 0 and 1 have a distance, up to 1400. */
    static void buildWay(Keeper x, int distance) {
        int gate = 0;
        int left = distance;
        for (int next = 2; left > LONGEST_ROAD; next++) {
            x.road(gate, next, LONGEST_ROAD);
            gate = next;
            left -= LONGEST_ROAD;
        }
        x.road(gate, 1, left);
    }

    static int[] withFirst(int first, int... others) {
        return IntStream.concat(IntStream.of(first), IntStream.of(others)).toArray();
    }

    /**
     * Values out of a range: the first ones beyond it, the farthest ones, and some that would come
     * into the range if they were cut to a byte or a short, or lost their highest bit.
     */
    static int[] beyond(int least, int most) {
        int[] values = {least - 1, most + 1, -most - 1, Integer.MIN_VALUE, Integer.MAX_VALUE,
            least + 256, least + 65536, least - 65536, most + Integer.MIN_VALUE};
        return IntStream.of(values).filter(value -> value < least || value > most).distinct().toArray();
    }
}

/** Steps that many tests begin with. */
final class Made {
    static final int A = 0;
    static final int B = 1;
    static final int C = 2;
    static final int J = 9;
    static final int CAR = 10;
    static final int LAST_CAR = 13;
    static final int MARK = 14;

    private Made() {
    }

    static void spell(Tollkeeper x, int... signs) {
        x.clearSpelled();
        for (int sign : signs) {
            x.spell(sign);
        }
    }

    static int plate(Tollkeeper x, int driver, int its, int... signs) {
        spell(x, signs);
        return x.register(driver, its);
    }

    static int reading(Tollkeeper x, int gate, int minute, int... signs) {
        spell(x, signs);
        return x.read(gate, minute);
    }

    /** The minute 2000, the roads 0-1 of 20 and 1-2 of 30, and the plate 0, A, of driver 0 and class 1 from the minute 0 on. */
    static Tollkeeper oneRoadAndPlate() {
        Tollkeeper x = new Tollkeeper();
        plate(x, 0, 1, A);
        x.pass(2000);
        x.road(0, 1, 20);
        x.road(1, 2, 30);
        return x;
    }
}

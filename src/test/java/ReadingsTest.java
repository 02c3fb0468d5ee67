/** Promises 19 to 23. */
public final class ReadingsTest {
    private static final int[] NOT_ZERO = {-1, 1, Integer.MIN_VALUE, Integer.MAX_VALUE};

    public static void main(String[] args) {
        readNumbersReadings();
        readRefuses();
        readRefusesASixtyFirst();
        costsAddUp();
        costIsNone();
        costRefuses();
        plateOfLeastCost();
        plateOfFirstInOrder();
        correctGoesBeyondTexts();
        correctRefuses();
        uncorrectTakesItBack();
        uncorrectRefuses();
        Check.end();
    }

    private static void readNumbersReadings() {
        Keeper x = new Keeper();
        x.pass(20);
        Check.due("a reading of now", Made.reading(x, 7, 20, 14), 0);
        Check.due("a late reading", x.read(0, 0), 1);
        Check.due("the same once more", x.read(0, 0), 2);
        Check.due("of no plate", x.plateOf(1), Tollkeeper.NONE);
        Check.due("of no trip", x.tripOf(1), Tollkeeper.NONE);
    }

    private static void readRefuses() {
        Keeper x = new Keeper();
        x.pass(20);
        Check.noState(x, "read of nothing", () -> x.read(0, 0));
        for (int gate : new int[] {-1, 8, Integer.MIN_VALUE, Integer.MAX_VALUE}) {
            Check.noIndex(x, "read at gate " + gate, () -> x.read(gate, 21));
        }
        for (int minute : new int[] {-1, 21, Integer.MIN_VALUE, Integer.MAX_VALUE}) {
            Check.noArgument(x, "read of nothing in " + minute, () -> x.read(0, minute));
        }
        x.spell(0);
        Check.noArgument(x, "read ahead of now", () -> x.read(0, 21));
        Check.due("the first reading", x.read(0, 20), 0);
    }

    private static void readRefusesASixtyFirst() {
        Keeper x = new Keeper();
        Made.plate(x, 0, 0, 0);
        for (int i = 0; i < 60; i++) {
            Check.due("read", x.read(0, 0), i);
        }
        Check.noState(x, "a sixty-first reading", () -> x.read(0, 0));
        Check.noArgument(x, "one ahead of now", () -> x.read(0, 1));
        Check.noIndex(x, "one at no gate", () -> x.read(8, 1));
        Check.due("all of one trip", x.tripOf(59), 0);
        Check.due("a toll without a way", x.toll(0, 0), 2);
        for (int i = 0; i < 60; i++) {
            x.correct(i, Tollkeeper.NONE);
        }
        Check.due("no trip is left", x.trips(0), 0);
        Check.due("nothing is due", x.due(0), 0);
    }

    private static void costsAddUp() {
        Keeper x = new Keeper();
        x.alike(0, 1);
        x.alike(10, 13);
        Made.plate(x, 0, 0, 0, 1, 10, 2, 2, 9);
        Made.reading(x, 0, 0, 0, 1, 10, 2, 2, 9);
        Made.reading(x, 0, 0, 1, 0, 13, 2, 2, 9);
        Made.reading(x, 0, 0, 14, 14, 14, 14, 14, 14);
        Made.reading(x, 0, 0, 1, 1, 10, 2, 14, 9);
        Check.due("cost of the same text", x.cost(0, 0), 0);
        Check.due("cost of three that are alike", x.cost(1, 0), 3);
        Check.due("cost of six question marks", x.cost(2, 0), 12);
        Check.due("cost of one alike and one mark", x.cost(3, 0), 3);
        x.correct(3, Tollkeeper.NONE);
        Check.due("cost of a corrected one", x.cost(3, 0), 3);
    }

    private static void costIsNone() {
        Keeper x = new Keeper();
        Made.plate(x, 0, 0, 0, 1);
        Made.plate(x, 0, 0, 10);
        Made.reading(x, 0, 0, 0, 2);
        Made.reading(x, 0, 0, 0);
        Made.reading(x, 0, 0, 0, 1, 14);
        Made.reading(x, 0, 0, 14, 14);
        for (int reading = 0; reading < 3; reading++) {
            Check.due("cost of " + reading, x.cost(reading, 0), Tollkeeper.NONE);
            Check.due("plate of " + reading, x.plateOf(reading), Tollkeeper.NONE);
        }
        Check.due("signs count, not chars", x.cost(3, 1), Tollkeeper.NONE);
        Check.due("two question marks", x.cost(3, 0), 4);
    }

    private static void costRefuses() {
        Keeper x = new Keeper();
        Made.plate(x, 0, 0, 0);
        Check.noIndex(x, "cost of no reading", () -> x.cost(0, 0));
        x.read(0, 0);
        for (int number : NOT_ZERO) {
            Check.noIndex(x, "cost of reading " + number, () -> x.cost(number, 0));
            Check.noIndex(x, "cost for plate " + number, () -> x.cost(0, number));
            Check.noIndex(x, "plateOf(" + number + ")", () -> x.plateOf(number));
        }
    }

    private static void plateOfLeastCost() {
        Keeper x = new Keeper();
        Made.plate(x, 0, 0, 0, 0);
        Made.plate(x, 0, 0, 2, 0);
        Made.reading(x, 0, 0, 1, 14);
        Check.due("no plate", x.plateOf(0), Tollkeeper.NONE);
        x.alike(1, 2);
        Check.due("the only plate with a cost", x.plateOf(0), 1);
        Made.plate(x, 0, 0, 1, 9);
        Check.due("one of less cost, last in the order", x.plateOf(0), 2);
        Check.due("last in the order", x.plateAt(2), 2);
    }

    private static void plateOfFirstInOrder() {
        Keeper x = new Keeper();
        Made.plate(x, 0, 0, 0, 13);
        Made.plate(x, 0, 0, 9, 12);
        Made.reading(x, 0, 0, 14, 14);
        Check.due("the first by the last sign", x.plateOf(0), 1);
        Made.plate(x, 0, 0, 9, 9);
        Check.due("a new first one", x.plateOf(0), 2);
        Made.plate(x, 0, 0, 8, 9);
        Check.due("one more", x.plateOf(0), 3);
        Made.plate(x, 0, 0, 0, 10);
        Check.due("one behind", x.plateOf(0), 3);
    }

    private static void correctGoesBeyondTexts() {
        Keeper x = new Keeper();
        Made.plate(x, 0, 0, 0);
        Made.plate(x, 1, 0, 1, 1);
        Made.reading(x, 0, 0, 0);
        Check.due("correct to a plate of another text", x.correct(0, 1), 0);
        Check.due("its plate", x.plateOf(0), 1);
        Check.due("trips of the one before", x.trips(0), 0);
        Check.due("trips of the one then", x.trips(1), 1);
        Check.due("due then", x.due(1), 2);
        Check.due("correct to no plate", x.correct(0, Tollkeeper.NONE), 1);
        Check.due("its plate", x.plateOf(0), Tollkeeper.NONE);
        Check.due("its trip", x.tripOf(0), Tollkeeper.NONE);
        Check.due("nothing is due", x.due(1), 0);
        Check.due("correct back", x.correct(0, 0), Tollkeeper.NONE);
        Check.due("correct to the same", x.correct(0, 0), 0);
        x.alike(0, 1);
        Made.plate(x, 0, 0, 2);
        Check.due("a correction stays", x.plateOf(0), 0);
        x.correct(0, 2);
        x.alike(0, 2);
        Check.due("a correction stays with signs alike", x.plateOf(0), 2);
    }

    private static void correctRefuses() {
        Keeper x = new Keeper();
        Check.noIndex(x, "correct of no reading", () -> x.correct(0, Tollkeeper.NONE));
        Made.plate(x, 0, 0, 0);
        x.read(0, 0);
        for (int number : NOT_ZERO) {
            Check.noIndex(x, "correct of reading " + number, () -> x.correct(number, 0));
        }
        for (int plate : new int[] {-2, 1, Integer.MIN_VALUE, Integer.MAX_VALUE}) {
            Check.noIndex(x, "correct to plate " + plate, () -> x.correct(0, plate));
        }
        Check.noState(x, "a correction that was refused", () -> x.uncorrect(0));
    }

    private static void uncorrectTakesItBack() {
        Keeper x = new Keeper();
        Made.plate(x, 0, 0, 0);
        Made.plate(x, 1, 0, 1);
        Made.reading(x, 0, 0, 0);
        x.correct(0, 1);
        Check.due("uncorrect", x.uncorrect(0), 0);
        Check.due("its plate", x.plateOf(0), 0);
        Check.due("trips of the other", x.trips(1), 0);
        x.correct(0, Tollkeeper.NONE);
        Check.due("uncorrect of none", x.uncorrect(0), 0);
        x.correct(0, 0);
        Check.due("a correction to the same plate is one", x.uncorrect(0), 0);
        Made.reading(x, 0, 0, 5);
        x.correct(1, 0);
        Check.due("uncorrect to no plate", x.uncorrect(1), Tollkeeper.NONE);
        x.correct(1, 0);
        x.alike(1, 5);
        Check.due("uncorrect goes by what is alike by now", x.uncorrect(1), 1);
        x.alike(1, 5);
        Check.due("and it goes on by that", x.plateOf(1), Tollkeeper.NONE);
    }

    private static void uncorrectRefuses() {
        Keeper x = new Keeper();
        Made.plate(x, 0, 0, 0);
        x.read(0, 0);
        Check.noState(x, "uncorrect of what is not corrected", () -> x.uncorrect(0));
        x.correct(0, Tollkeeper.NONE);
        for (int number : NOT_ZERO) {
            Check.noIndex(x, "uncorrect(" + number + ")", () -> x.uncorrect(number));
        }
        x.uncorrect(0);
        Check.noState(x, "uncorrect once more", () -> x.uncorrect(0));
    }
}

/** Promises 34 to 36. */
public final class WarrantsTest {
    public static void main(String[] args) {
        warrantsAreNumbered();
        warrantRefuses();
        showsTripsThatBeganOnItsDays();
        showsUpToTheLastDay();
        askRefuses();
        askEndsAtForty();
        staleFollowsWhatIsShown();
        staleCountsEachAnswer();
        staleRefuses();
        Check.end();
    }

    private static void warrantsAreNumbered() {
        Keeper x = new Keeper();
        Made.plate(x, 0, 0, Made.A);
        for (int i = 0; i < 8; i++) {
            Check.due("warrant", x.warrant(0, i, 34), i);
        }
        Check.noState(x, "a ninth warrant", () -> x.warrant(0, 0, 0));
        Check.noArgument(x, "a ninth one without days", () -> x.warrant(0, 1, 0));
        Check.noIndex(x, "a ninth one without a plate", () -> x.warrant(1, 1, 0));
    }

    private static void warrantRefuses() {
        Keeper x = new Keeper();
        Check.noIndex(x, "a warrant for no plate", () -> x.warrant(0, 0, 0));
        Made.plate(x, 0, 0, Made.A);
        for (int plate : new int[] {-1, 1, Integer.MIN_VALUE, Integer.MAX_VALUE}) {
            Check.noIndex(x, "a warrant for plate " + plate, () -> x.warrant(plate, 0, 0));
        }
        for (int day : new int[] {-1, 35, Integer.MIN_VALUE, Integer.MAX_VALUE}) {
            Check.noArgument(x, "a warrant from " + day, () -> x.warrant(0, day, 34));
            Check.noArgument(x, "a warrant to " + day, () -> x.warrant(0, 0, day));
            Check.noArgument(x, "a warrant for the day " + day, () -> x.warrant(0, day, day));
        }
        Check.noArgument(x, "a warrant from 5 to 4", () -> x.warrant(0, 5, 4));
        Check.due("a warrant for the last day", x.warrant(0, 34, 34), 0);
    }

    /** The trips 1430-1445 of day 0, 2870 of day 1, 2881-2890 of day 2, 5000 of day 3. */
    private static Keeper fourDays() {
        Keeper x = Made.oneRoadAndPlate();
        x.pass(2000);
        x.pass(2000);
        x.read(1, 1445);
        x.read(0, 1430);
        x.read(2, 2890);
        x.read(2, 2879);
        x.read(0, 5000);
        x.setPause(10);
        return x;
    }

    private static void checkShown(Keeper x, int from, int to, int... want) {
        int warrant = x.warrant(0, from, to);
        for (int place = 0; place < want.length; place++) {
            Check.due("place " + place + " of " + from + " to " + to, x.ask(warrant, place), want[place]);
        }
        Check.noElement(x, "behind the last place", () -> x.ask(warrant, want.length));
    }

    private static void showsTripsThatBeganOnItsDays() {
        Keeper x = fourDays();
        checkShown(x, 0, 0, 1430, 101445);
        checkShown(x, 1, 1, 202879);
        checkShown(x, 2, 2, 202890);
        checkShown(x, 3, 34, 5000);
        checkShown(x, 0, 34, 1430, 101445, 202879, 202890, 5000);
        checkShown(x, 1, 2, 202879, 202890);
        x.setPause(11);
        checkShown(x, 1, 1, 202879, 202890);
        checkShown(x, 2, 2);
        Check.due("stale of the day 2", x.stale(2), 1);
        Check.due("stale of the day 1", x.stale(1), 0);
    }

    private static void showsUpToTheLastDay() {
        Keeper x = new Keeper();
        Made.plate(x, 0, 0, Made.A);
        for (int i = 0; i < 25; i++) {
            x.pass(2000);
        }
        x.read(7, 50000);
        x.read(3, 34 * 1440);
        x.read(4, 34 * 1440 - 1);
        x.setPause(0);
        checkShown(x, 34, 34, 300000 + 34 * 1440, 750000);
        checkShown(x, 33, 33, 400000 + 34 * 1440 - 1);
        checkShown(x, 0, 32);
    }

    private static void askRefuses() {
        Keeper x = fourDays();
        Check.noIndex(x, "ask without a warrant", () -> x.ask(0, 0));
        x.warrant(0, 1, 1);
        x.ask(0, 0);
        for (int warrant : new int[] {-1, 1, Integer.MIN_VALUE, Integer.MAX_VALUE}) {
            Check.noIndex(x, "ask under " + warrant, () -> x.ask(warrant, -1));
        }
        for (int place : new int[] {-1, 1, Integer.MIN_VALUE, Integer.MAX_VALUE}) {
            Check.noElement(x, "ask for place " + place, () -> x.ask(0, place));
        }
    }

    private static void askEndsAtForty() {
        Keeper x = fourDays();
        x.warrant(0, 0, 34);
        x.warrant(0, 0, 0);
        for (int i = 0; i < 39; i++) {
            Check.due("ask", x.ask(i % 2, 1), 101445);
            Check.due("ask for nothing is not counted", Check.outcome(() -> x.ask(0, 9)),
                java.util.NoSuchElementException.class.getName());
        }
        Check.due("the fortieth asking", x.ask(0, 0), 1430);
        Check.noState(x, "one more", () -> x.ask(0, 0));
        Check.noState(x, "one more under the other", () -> x.ask(1, 0));
        Check.noState(x, "one more for nothing", () -> x.ask(0, -1));
        Check.noIndex(x, "one more under none", () -> x.ask(2, 0));
        x.correct(0, Tollkeeper.NONE);
        Check.due("stale of the first", x.stale(0), 20);
        Check.due("stale of the second", x.stale(1), 19);
    }

    private static void staleFollowsWhatIsShown() {
        Keeper x = fourDays();
        x.warrant(0, 0, 0);
        x.ask(0, 0);
        x.ask(0, 1);
        Check.due("at first", x.stale(0), 0);
        x.correct(0, Tollkeeper.NONE);
        Check.due("nothing at one place", x.stale(0), 1);
        x.uncorrect(0);
        Check.due("as it was", x.stale(0), 0);
        x.correct(1, Tollkeeper.NONE);
        Check.due("a trip that begins later, on another day", x.stale(0), 2);
        x.uncorrect(1);
        x.read(0, 1430);
        Check.due("the same gate and minute ahead", x.stale(0), 1);
        x.correct(1, Tollkeeper.NONE);
        Check.due("another passing of the same gate and minute", x.stale(0), 0);
        x.correct(5, Tollkeeper.NONE);
        x.read(2, 1430);
        Check.due("another gate", x.stale(0), 1);
        x.correct(6, Tollkeeper.NONE);
        x.read(0, 1429);
        Check.due("another minute", x.stale(0), 1);
    }

    private static void staleCountsEachAnswer() {
        Keeper x = fourDays();
        x.warrant(0, 0, 0);
        x.warrant(0, 0, 0);
        x.ask(0, 0);
        x.ask(0, 0);
        x.ask(1, 0);
        x.read(0, 1300);
        Check.due("two stale answers of one place", x.stale(0), 2);
        x.ask(0, 0);
        Check.due("a new answer beside them", x.stale(0), 2);
        Check.due("the other warrant's", x.stale(1), 1);
        x.correct(5, Tollkeeper.NONE);
        Check.due("the new answer then", x.stale(0), 1);
    }

    private static void staleRefuses() {
        Keeper x = fourDays();
        Check.noIndex(x, "stale without a warrant", () -> x.stale(0));
        x.warrant(0, 0, 0);
        x.ask(0, 0);
        for (int warrant : new int[] {-1, 1, Integer.MIN_VALUE, Integer.MAX_VALUE}) {
            Check.noIndex(x, "stale(" + warrant + ")", () -> x.stale(warrant));
        }
    }
}

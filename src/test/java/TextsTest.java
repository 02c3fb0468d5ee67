/** Promises 8 to 13. */
public final class TextsTest {
    private static final int[] NO_SIGNS = {-1, 15, Integer.MIN_VALUE, Integer.MAX_VALUE};

    public static void main(String[] args) {
        spellCountsChars();
        everySignHasItsChars();
        insertGoesAheadOfASign();
        fullTextTakesNoSign();
        mirrorTurnsSignsRound();
        clearSpelledEmpties();
        textStaysWhenItIsUsed();
        charAtRefuses();
        alikeIsToldAndTakenBack();
        alikeRefuses();
        Check.end();
    }

    private static void spellCountsChars() {
        Keeper x = new Keeper();
        Check.due("spell(0)", x.spell(0), 1);
        Check.due("spell(10)", x.spell(10), 3);
        Check.due("spell(14)", x.spell(14), 4);
        Check.due("spell(9)", x.spell(9), 5);
        Check.due("spell(13)", x.spell(13), 7);
        checkText(x, "A\uD83D\uDE90?J\uD83D\uDE93");
        for (int sign : NO_SIGNS) {
            Check.noIndex(x, "spell(" + sign + ")", () -> x.spell(sign));
        }
    }

    private static void everySignHasItsChars() {
        for (int sign = 0; sign < 15; sign++) {
            Keeper x = new Keeper();
            int point = sign < 10 ? 'A' + sign : sign < 14 ? 0x1F690 + sign - 10 : '?';
            String want = new StringBuilder().appendCodePoint(point).toString();
            Check.due("spell(" + sign + ")", x.spell(sign), want.length());
            checkText(x, want);
        }
    }

    private static void insertGoesAheadOfASign() {
        Keeper x = new Keeper();
        Check.noArgument(x, "insert into nothing", () -> x.insert(0, 0));
        x.spell(0);
        Check.due("insert(11, 0)", x.insert(11, 0), 3);
        checkText(x, "\uD83D\uDE91A");
        Check.due("insert(2, 1)", x.insert(2, 1), 4);
        checkText(x, "\uD83D\uDE91CA");
        Check.due("insert(3, 2)", x.insert(3, 2), 5);
        checkText(x, "\uD83D\uDE91CDA");
        for (int place : new int[] {-1, 4, Integer.MIN_VALUE, Integer.MAX_VALUE}) {
            Check.noArgument(x, "insert at " + place, () -> x.insert(0, place));
        }
        for (int sign : NO_SIGNS) {
            Check.noIndex(x, "insert(" + sign + ", 0)", () -> x.insert(sign, 0));
            Check.noIndex(x, "insert(" + sign + ", 9)", () -> x.insert(sign, 9));
        }
    }

    private static void fullTextTakesNoSign() {
        Keeper x = new Keeper();
        Made.spell(x, 10, 11, 12, 13, 10);
        Check.due("the sixth sign", x.spell(11), 12);
        Check.noState(x, "a seventh sign", () -> x.spell(0));
        Check.noIndex(x, "a seventh sign that is none", () -> x.spell(15));
        Check.noState(x, "inserting a seventh sign", () -> x.insert(0, 5));
        Check.noArgument(x, "inserting it at no place", () -> x.insert(0, 6));
        Check.noIndex(x, "inserting none at no place", () -> x.insert(-1, 6));
        Made.spell(x, 0, 1, 2, 3, 4);
        Check.due("inserting a sixth sign", x.insert(5, 4), 6);
        checkText(x, "ABCDFE");
    }

    private static void mirrorTurnsSignsRound() {
        Keeper x = new Keeper();
        Check.due("mirror of nothing", x.mirror(), 0);
        Made.spell(x, 0, 10, 14);
        Check.due("mirror of three", x.mirror(), 3);
        checkText(x, "?\uD83D\uDE90A");
        Made.spell(x, 1, 12);
        Check.due("mirror of two", x.mirror(), 2);
        checkText(x, "\uD83D\uDE92B");
        Check.due("mirror again", x.mirror(), 2);
        checkText(x, "B\uD83D\uDE92");
        Made.spell(x, 0, 1, 2, 3, 4, 5);
        Check.due("mirror of six", x.mirror(), 6);
        checkText(x, "FEDCBA");
    }

    private static void clearSpelledEmpties() {
        Keeper x = new Keeper();
        Check.due("clearSpelled of nothing", x.clearSpelled(), 0);
        Made.spell(x, 10, 11);
        Check.due("clearSpelled of two", x.clearSpelled(), 2);
        checkText(x, "");
        Check.due("spell then", x.spell(3), 1);
        checkText(x, "D");
    }

    private static void textStaysWhenItIsUsed() {
        Keeper x = new Keeper();
        Made.spell(x, 0, 10);
        x.register(0, 0);
        checkText(x, "A\uD83D\uDE90");
        x.read(0, 0);
        checkText(x, "A\uD83D\uDE90");
        x.spell(1);
        x.mirror();
        Check.due("the plate and the reading keep their texts", x.cost(0, 0), 0);
        Check.due("the longer text is no plate's", x.register(0, 0), 1);
        Check.due("the reading is not of the longer one", x.cost(0, 1), Tollkeeper.NONE);
    }

    private static void charAtRefuses() {
        Keeper x = new Keeper();
        Check.noElement(x, "charAt(0) of nothing", () -> x.charAt(0));
        Made.spell(x, 0, 10);
        Check.due("charAt(2)", x.charAt(2), '\uDE90');
        for (int place : new int[] {-1, 3, Integer.MIN_VALUE, Integer.MAX_VALUE}) {
            Check.noElement(x, "charAt(" + place + ")", () -> x.charAt(place));
        }
    }

    private static void alikeIsToldAndTakenBack() {
        Keeper x = new Keeper();
        Made.plate(x, 0, 0, Made.A);
        Made.reading(x, 0, 0, Made.LAST_CAR);
        Check.due("alike(0, 13)", x.alike(0, 13), true);
        Check.due("its cost", x.cost(0, 0), 1);
        Check.due("its plate", x.plateOf(0), 0);
        Check.due("alike(0, 1)", x.alike(0, 1), true);
        Check.due("alike(13, 0)", x.alike(13, 0), false);
        Check.due("its cost then", x.cost(0, 0), Tollkeeper.NONE);
        Check.due("its plate then", x.plateOf(0), Tollkeeper.NONE);
        Check.due("alike(13, 1)", x.alike(13, 1), true);
        Check.due("what is alike to what is alike is not", x.cost(0, 0), Tollkeeper.NONE);
        Check.due("alike(1, 0)", x.alike(1, 0), false);
        Check.due("alike(13, 0) again", x.alike(13, 0), true);
        Check.due("its cost at last", x.cost(0, 0), 1);
    }

    private static void alikeRefuses() {
        Keeper x = new Keeper();
        for (int sign : NO_SIGNS) {
            Check.noIndex(x, "alike(" + sign + ", 0)", () -> x.alike(sign, 0));
            Check.noIndex(x, "alike(0, " + sign + ")", () -> x.alike(0, sign));
            Check.noIndex(x, "alike(" + sign + ", itself)", () -> x.alike(sign, sign));
            Check.noIndex(x, "alike(14, " + sign + ")", () -> x.alike(14, sign));
        }
        Check.noArgument(x, "alike(3, 3)", () -> x.alike(3, 3));
        Check.noArgument(x, "alike(14, 14)", () -> x.alike(14, 14));
        Check.noArgument(x, "alike(14, 0)", () -> x.alike(14, 0));
        Check.noArgument(x, "alike(0, 14)", () -> x.alike(0, 14));
    }

    private static void checkText(Keeper x, String want) {
        StringBuilder text = new StringBuilder();
        for (int place = 0; place < want.length(); place++) {
            text.append(Check.outcome(placed(x, place)));
        }
        Check.due("the text", text.toString(), want);
        Check.due("the end of the text", Check.outcome(placed(x, want.length())),
            java.util.NoSuchElementException.class.getName());
    }

    private static Check.Call placed(Keeper x, int place) {
        return () -> x.charAt(place);
    }
}

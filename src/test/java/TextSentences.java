/** Tests of the sentences of 'Signs and texts' and of the promises 8 to 13. */
final class TextSentences {
    private static final int NONE = Tollkeeper.NONE;
    private static final int SIGNS = 15;
    private static final String FULL = "Throws `IllegalStateException` if it has 6 signs";
    private static final String CHARS_THEN = "Returns how many chars the text has then.";
    private static final String NO_SIGN = "Throws `IndexOutOfBoundsException` as told";

    private TextSentences() {
    }

    static void test(Sentences s) {
        signsAndTexts(s);
        spelling(s);
        inserting(s);
        turningAndEmptying(s);
        charsAndLikeness(s);
    }

    private static void signsAndTexts(Sentences s) {
        s.in("Signs and texts");
        s.test("There are the signs 0 to 14.", TextSentences::signsAre0To14);
        s.test("The signs 0 to 9 are the letters A to J; the signs 10 to 13 are the code points 0x1F690 to"
            + " 0x1F693, each of which is a pair of chars in a text (the high surrogate first); the sign 14"
            + " is the question mark.", TextSentences::everySignHasItsChars);
        String text = "One text is spelled at a time, empty at first, of 6 signs at most; it stays when it is used.";
        s.test(text, TextSentences::textIsEmptyAtFirst);
        s.test(text, TextSentences::textHas6SignsAtMost);
        s.test(text, TextSentences::textStaysWhenItIsUsed);
        String alike = "Two of the letters and code points can be told to be alike.";
        s.test(alike, TextSentences::everyTwoCanBeAlike);
        s.test(alike, TextSentences::nothingIsAlikeToTheQuestionMark);
    }

    private static void spelling(Sentences s) {
        s.in("Promise 8: spell");
        s.test("Puts a sign at the end of the spelled text.", TextSentences::spellPutsAtTheEnd);
        s.test(CHARS_THEN, TextSentences::spellTellsChars);
        s.test(NO_SIGN, TextSentences::spellRefusesSigns);
        s.test(FULL, TextSentences::spellEndsAt6Signs);
    }

    private static void inserting(Sentences s) {
        s.in("Promise 9: insert");
        s.test("Inserts a sign into the spelled text, ahead of the sign at a place.",
            TextSentences::insertPutsAheadOfAPlace);
        s.test("- `place`: 0 to the number of its signs less 1", TextSentences::insertTakesPlacesOfSigns);
        s.test(CHARS_THEN, TextSentences::insertTellsChars);
        s.test(NO_SIGN, TextSentences::insertRefusesSigns);
        s.test("Throws `IllegalArgumentException` if there is no such place", TextSentences::insertRefusesPlaces);
        s.test("Throws `IllegalArgumentException` if there is no such place",
            TextSentences::insertRefusesEveryPlaceOfNothing);
        s.test(FULL, TextSentences::insertEndsAt6Signs);
    }

    private static void turningAndEmptying(Sentences s) {
        s.in("Promise 10: mirror");
        s.test("Turns the spelled text round: its signs stand in the opposite order.",
            TextSentences::mirrorTurnsSignsRound);
        s.test("Returns how many signs it has.", TextSentences::mirrorTellsSigns);
        s.in("Promise 11: clearSpelled");
        s.test("Empties the spelled text.", TextSentences::clearSpelledEmpties);
        s.test("Returns how many signs it had.", TextSentences::clearSpelledTellsSigns);
    }

    private static void charsAndLikeness(Sentences s) {
        s.in("Promise 12: charAt");
        s.test("Returns a char of the spelled text.", TextSentences::charAtTellsEachChar);
        s.test("- `place`: from 0", TextSentences::charAtTakesPlacesFrom0);
        String noChar = "Throws `java` .util.NoSuchElementException if it has no such char, or place is below 0";
        s.test(noChar, TextSentences::charAtRefusesPlaces);
        s.test(noChar, TextSentences::charAtRefusesEveryPlaceOfNothing);
        s.in("Promise 13: alike");
        s.test("Tells that two signs are alike, or takes that back.", TextSentences::alikeIsToldAndTakenBack);
        s.test("Returns true if they are alike then.", TextSentences::alikeTellsWhetherTheyAre);
        s.test("Throws `IndexOutOfBoundsException` as told, of either", TextSentences::alikeRefusesSigns);
        String same = "Throws `IllegalArgumentException` if both are the same, or one is the question mark";
        s.test(same, TextSentences::alikeRefusesTheSameSign);
        s.test(same, TextSentences::alikeRefusesTheQuestionMark);
    }

    static void checkText(Keeper x, String want) {
        for (int place = 0; place < want.length(); place++) {
            x.answers(want.charAt(place), "charAt", place);
        }
        x.noElement("charAt", want.length());
    }

    private static String charsOf(int sign) {
        if (sign < Made.CAR) {
            return "ABCDEFGHIJ".substring(sign, sign + 1);
        }
        return sign == Made.MARK ? "?" : "\uD83D" + "\uDE90\uDE91\uDE92\uDE93".charAt(sign - Made.CAR);
    }

    // ---- signs and texts

    private static void signsAre0To14() {
        for (int sign = 0; sign < SIGNS; sign++) {
            Keeper x = new Keeper();
            x.answers(charsOf(sign).length(), "spell", sign);
            x.answers(2 * charsOf(sign).length(), "insert", sign, 0);
        }
        Keeper x = new Keeper();
        x.spell(Made.A);
        for (int sign : Made.beyond(0, 14)) {
            x.noIndex("spell", sign);
            x.noIndex("insert", sign, 0);
            x.noIndex("alike", 0, sign);
        }
    }

    private static void everySignHasItsChars() {
        for (int sign = 0; sign < SIGNS; sign++) {
            Keeper x = new Keeper();
            x.spell(sign);
            checkText(x, charsOf(sign));
        }
    }

    private static void textIsEmptyAtFirst() {
        Keeper x = new Keeper();
        checkText(x, "");
        x.answers(0, "mirror");
        x.answers(0, "clearSpelled");
    }

    private static void textHas6SignsAtMost() {
        Keeper letters = new Keeper();
        Made.spell(letters, 0, 1, 2, 3, 4, 5);
        letters.noState("spell", 6);
        checkText(letters, "ABCDEF");
        Keeper pairs = new Keeper();
        Made.spell(pairs, 10, 10, 10, 10, 10);
        pairs.answers(12, "spell", 10);
        pairs.noState("insert", 0, 0);
        pairs.answers(6, "clearSpelled");
    }

    private static void textStaysWhenItIsUsed() {
        Keeper x = new Keeper();
        Made.spell(x, Made.A, Made.CAR);
        x.register(0, 0);
        checkText(x, "A\uD83D\uDE90");
        x.read(0, 0);
        checkText(x, "A\uD83D\uDE90");
        x.answers(1, "read", 0, 0);
        x.answers(2, "mirror");
        x.answers(0, "plateOf", 0);
        x.answers(0, "cost", 1, 0);
        x.answers(1, "register", 0, 0);
        x.answers(0, "plateOf", 0);
    }

    private static void everyTwoCanBeAlike() {
        Keeper x = new Keeper();
        for (int sign = 0; sign < Made.MARK; sign++) {
            for (int other = sign + 1; other < Made.MARK; other++) {
                x.answers(true, "alike", sign, other);
            }
        }
        for (int sign = 0; sign < Made.MARK; sign++) {
            for (int other = sign + 1; other < Made.MARK; other++) {
                x.answers(false, "alike", other, sign);
            }
        }
    }

    private static void nothingIsAlikeToTheQuestionMark() {
        Keeper x = new Keeper();
        for (int sign = 0; sign < Made.MARK; sign++) {
            x.noArgument("alike", sign, Made.MARK);
        }
    }

    // ---- spelling

    private static void spellPutsAtTheEnd() {
        Keeper x = new Keeper();
        x.spell(Made.B);
        checkText(x, "B");
        x.spell(Made.A);
        checkText(x, "BA");
        x.spell(Made.LAST_CAR);
        checkText(x, "BA\uD83D\uDE93");
        x.spell(Made.A);
        checkText(x, "BA\uD83D\uDE93A");
    }

    private static void spellTellsChars() {
        Keeper x = new Keeper();
        int[] signs = {Made.J, Made.CAR, Made.MARK, Made.LAST_CAR, Made.A, 11};
        int[] chars = {1, 3, 4, 6, 7, 9};
        for (int i = 0; i < signs.length; i++) {
            x.answers(chars[i], "spell", signs[i]);
        }
    }

    private static void spellRefusesSigns() {
        Keeper x = new Keeper();
        for (int sign : Made.beyond(0, 14)) {
            x.noIndex("spell", sign);
        }
        Made.spell(x, 0, 0, 0, 0, 0, 0);
        x.noIndex("spell", -1);
        x.noIndex("spell", 15);
    }

    private static void spellEndsAt6Signs() {
        for (int sign : new int[] {Made.A, Made.CAR, Made.MARK}) {
            Keeper x = new Keeper();
            Made.spell(x, sign, sign, sign, sign, sign);
            x.answers(6 * charsOf(sign).length(), "spell", sign);
            x.noState("spell", sign);
            x.noState("spell", Made.B);
            x.clearSpelled();
            x.answers(1, "spell", Made.B);
        }
    }

    // ---- inserting

    private static void insertPutsAheadOfAPlace() {
        Keeper x = new Keeper();
        Made.spell(x, Made.A);
        x.insert(Made.CAR, 0);
        checkText(x, "\uD83D\uDE90A");
        x.insert(Made.B, 1);
        checkText(x, "\uD83D\uDE90BA");
        x.insert(Made.C, 2);
        checkText(x, "\uD83D\uDE90BCA");
        x.insert(Made.MARK, 0);
        checkText(x, "?\uD83D\uDE90BCA");
        x.insert(Made.J, 4);
        checkText(x, "?\uD83D\uDE90BCJA");
    }

    private static void insertTakesPlacesOfSigns() {
        for (int count = 1; count < 6; count++) {
            for (int place = 0; place < count; place++) {
                Keeper x = new Keeper();
                for (int i = 0; i < count; i++) {
                    x.spell(Made.CAR);
                }
                x.answers(2 * count + 1, "insert", Made.A, place);
                x.answers('A', "charAt", 2 * place);
            }
        }
        Keeper x = new Keeper();
        Made.spell(x, Made.CAR, Made.CAR);
        x.noArgument("insert", Made.A, -1);
        x.noArgument("insert", Made.A, 2);
    }

    private static void insertTellsChars() {
        Keeper x = new Keeper();
        x.spell(Made.A);
        x.answers(3, "insert", Made.LAST_CAR, 0);
        x.answers(4, "insert", Made.MARK, 1);
        x.answers(6, "insert", Made.CAR, 2);
        x.answers(8, "insert", Made.CAR, 0);
        x.answers(10, "insert", Made.CAR, 4);
    }

    private static void insertRefusesSigns() {
        Keeper x = new Keeper();
        x.spell(Made.A);
        for (int sign : Made.beyond(0, 14)) {
            x.noIndex("insert", sign, 0);
        }
    }

    private static void insertRefusesPlaces() {
        Keeper x = new Keeper();
        Made.spell(x, Made.CAR, Made.A, Made.CAR);
        for (int place : Made.beyond(0, 2)) {
            x.noArgument("insert", Made.B, place);
        }
        // A place of chars is none of signs.
        x.noArgument("insert", Made.B, 4);
    }

    private static void insertRefusesEveryPlaceOfNothing() {
        Keeper x = new Keeper();
        x.noArgument("insert", Made.A, 0);
        x.noArgument("insert", Made.A, -1);
        x.spell(Made.A);
        x.clearSpelled();
        x.noArgument("insert", Made.A, 0);
    }

    private static void insertEndsAt6Signs() {
        for (int sign : new int[] {Made.A, Made.CAR, Made.MARK}) {
            Keeper x = new Keeper();
            Made.spell(x, sign, sign, sign, sign, sign);
            x.answers(6 * charsOf(sign).length(), "insert", sign, 4);
            x.noState("insert", Made.B, 0);
            x.noState("insert", Made.B, 5);
            x.noState("insert", sign, 3);
        }
    }

    // ---- turning round and emptying

    private static void mirrorTurnsSignsRound() {
        Keeper x = new Keeper();
        x.mirror();
        checkText(x, "");
        Made.spell(x, Made.CAR);
        x.mirror();
        checkText(x, "\uD83D\uDE90");
        Made.spell(x, Made.A, Made.LAST_CAR);
        x.mirror();
        checkText(x, "\uD83D\uDE93A");
        x.mirror();
        checkText(x, "A\uD83D\uDE93");
        Made.spell(x, Made.A, Made.CAR, Made.MARK);
        x.mirror();
        checkText(x, "?\uD83D\uDE90A");
        Made.spell(x, 0, 1, 2, 10, 11, 14);
        x.mirror();
        checkText(x, "?\uD83D\uDE91\uD83D\uDE90CBA");
    }

    private static void mirrorTellsSigns() {
        Keeper x = new Keeper();
        x.answers(0, "mirror");
        for (int count = 1; count <= 6; count++) {
            x.spell(Made.CAR);
            x.answers(count, "mirror");
        }
    }

    private static void clearSpelledEmpties() {
        Keeper x = new Keeper();
        x.clearSpelled();
        checkText(x, "");
        Made.spell(x, 10, 11, 12, 13, 14, 0);
        x.clearSpelled();
        checkText(x, "");
        x.answers(0, "mirror");
        x.answers(1, "spell", Made.B);
        checkText(x, "B");
    }

    private static void clearSpelledTellsSigns() {
        Keeper x = new Keeper();
        x.answers(0, "clearSpelled");
        for (int count = 1; count <= 6; count++) {
            for (int i = 0; i < count; i++) {
                x.spell(Made.CAR);
            }
            x.answers(count, "clearSpelled");
            x.answers(0, "clearSpelled");
        }
    }

    // ---- chars

    private static void charAtTellsEachChar() {
        Keeper x = new Keeper();
        Made.spell(x, Made.A, Made.CAR, Made.MARK, Made.LAST_CAR, Made.J, 11);
        checkText(x, "A\uD83D\uDE90?\uD83D\uDE93J\uD83D\uDE91");
    }

    private static void charAtTakesPlacesFrom0() {
        Keeper x = new Keeper();
        Made.spell(x, 10, 11, 12, 13, 10, 11);
        x.answers(0xD83D, "charAt", 0);
        x.answers(0xDE91, "charAt", 11);
        x.noElement("charAt", -1);
        x.noElement("charAt", 12);
    }

    private static void charAtRefusesPlaces() {
        Keeper x = new Keeper();
        Made.spell(x, Made.A, Made.CAR);
        for (int place : Made.beyond(0, 2)) {
            x.noElement("charAt", place);
        }
        Made.spell(x, 0, 1, 2, 3, 4, 5);
        for (int place : Made.beyond(0, 5)) {
            x.noElement("charAt", place);
        }
    }

    private static void charAtRefusesEveryPlaceOfNothing() {
        Keeper x = new Keeper();
        x.noElement("charAt", 0);
        x.noElement("charAt", -1);
        x.spell(Made.A);
        x.clearSpelled();
        x.noElement("charAt", 0);
    }

    // ---- signs that are alike

    private static void alikeIsToldAndTakenBack() {
        Keeper x = new Keeper();
        Made.plate(x, 0, 0, Made.A);
        Made.reading(x, 0, 0, Made.LAST_CAR);
        x.answers(NONE, "cost", 0, 0);
        x.alike(Made.A, Made.LAST_CAR);
        x.answers(1, "cost", 0, 0);
        x.answers(0, "plateOf", 0);
        x.alike(Made.LAST_CAR, Made.A);
        x.answers(NONE, "cost", 0, 0);
        x.answers(NONE, "plateOf", 0);
        // What is alike to what is alike need not be alike.
        x.alike(Made.A, Made.B);
        x.alike(Made.B, Made.LAST_CAR);
        x.answers(NONE, "cost", 0, 0);
    }

    private static void alikeTellsWhetherTheyAre() {
        Keeper x = new Keeper();
        x.answers(true, "alike", 0, 13);
        x.answers(true, "alike", 0, 12);
        x.answers(false, "alike", 0, 13);
        x.answers(true, "alike", 13, 0);
        x.answers(false, "alike", 12, 0);
        x.answers(false, "alike", 13, 0);
    }

    /** Some signs are alike, so that it would be seen if a call that is refused took that back. */
    private static Keeper someAlike() {
        Keeper x = new Keeper();
        for (int sign = 1; sign < Made.MARK; sign++) {
            x.alike(0, sign);
        }
        return x;
    }

    private static void alikeRefusesSigns() {
        Keeper x = someAlike();
        for (int sign : Made.beyond(0, 14)) {
            x.noIndex("alike", sign, 0);
            x.noIndex("alike", 13, sign);
            x.noIndex("alike", sign, sign);
        }
    }

    private static void alikeRefusesTheSameSign() {
        Keeper x = someAlike();
        for (int sign = 0; sign < SIGNS; sign++) {
            x.noArgument("alike", sign, sign);
        }
    }

    private static void alikeRefusesTheQuestionMark() {
        Keeper x = someAlike();
        Made.plate(x, 0, 0, Made.A);
        Made.reading(x, 0, 0, Made.MARK);
        x.noArgument("alike", Made.MARK, Made.A);
        x.noArgument("alike", Made.A, Made.MARK);
        x.noArgument("alike", Made.MARK, Made.LAST_CAR);
        x.noArgument("alike", Made.MARK, Made.MARK);
        x.answers(2, "cost", 0, 0);
    }
}

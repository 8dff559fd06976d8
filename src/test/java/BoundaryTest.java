/**
 * One test, or more, for each sentence of the document that names a boundary case; the sentence stands
 * above its tests. A test of a call that changes nothing looks at the key and the held terms afterwards.
 */
final class BoundaryTest {
    private static final Check check = new Check("BoundaryTest");

    private static final int[] WRONG_LETTERS = Make.numbersOutside(0, 9);
    private static final String[] FULL = Make.twoLetterTerms(40);
    private static final String[] NO_TERMS = {};
    private static final String[] SOME_TERMS = {"0", "00", "09", "123456", "9", "999999"};
    private static final String[][] HELD = {NO_TERMS, {"5"}, SOME_TERMS, Make.twoLetterTerms(39), FULL};
    private static final String[] KEYS = {"", "0", "00", "090", "1234", "99999", "123456", "9", "39", "999999"};

    public static void main(String[] args) {
        terms();
        key();
        calls();
        questions();
        check.end();
    }

    private static void terms() {
        aTermHasOneToSixLetters();
        lettersAreZeroToNine();
        theFirstLetterThatDiffersDecides();
        aBeginningComesBeforeTheLonger();
        atMostFortyTermsAreHeld();
        eachTermIsHeldAtMostOnce();
    }

    private static void key() {
        theKeyIsEmptyAtTheStart();
        onlyFourCallsChangeTheKey();
        aNewObjectHoldsNoTerm();
        typeTakesZeroToNine();
        typeRefusesOtherLetters();
        typeRefusesASeventhLetter();
        backRefusesTheEmptyKey();
        eraseEmptiesEveryKey();
        loadTakesTheFirstAndTheLastRank();
        loadRefusesOtherRanks();
        loadRefusesTheRankOfADeletedTerm();
        letterOfEveryPlace();
        noLetterAtOtherPlaces();
        noLetterWhereOneWas();
    }

    private static void calls() {
        insertRefusesTheEmptyKey();
        insertRefusesAHeldKey();
        insertTakesTheFortiethTerm();
        insertRefusesBesideFortyTerms();
        deleteRefusesAKeyThatIsNotHeld();
        deleteRefusesADeletedKey();
        deleteTakesTheFirstAndTheLast();
        sizeIsFromNoneToForty();
        refusedCallsLeaveTheSize();
    }

    private static void questions() {
        theEmptyKeyComesBeforeAll();
        beforeCountsNoneToAll();
        aHeldKeyIsHeld();
        aKeyThatIsNotHeldIsNotHeld();
        theEmptyKeyIsNeverHeld();
        theKeyItselfCounts();
        allBeginWithTheEmptyKey();
        onlyWholeBeginningsCount();
        nothingIsInCommonWithNoTerm();
        commonCountsNoneToSixLetters();
    }

    // Terms: "A TERM is a row of 1 to 6 letters"

    private static void aTermHasOneToSixLetters() {
        for (String letters : new String[] {"000000", "102938", "999999"}) {
            for (int length = 1; length <= 6; length++) {
                String term = letters.substring(0, length);
                TermIndex x = Make.holdingWithKey(term);
                check.due("Terms: insert of " + term, x.insert(), 0);
                x.erase();
                check.due("Terms: load of " + term, x.load(0), length);
                check.stateIs(x, "Terms: with " + term, term, term);
            }
        }
    }

    // Terms: "letters are the numbers 0 to 9"

    private static void lettersAreZeroToNine() {
        for (int letter = 0; letter <= 9; letter++) {
            for (int place = 0; place < 6; place++) {
                String term = "555555".substring(0, place) + letter;
                TermIndex x = Make.holding(term);
                check.stateIs(x, "Terms: with " + term, term, term);
            }
        }
    }

    // Terms: "ordered like words in a dictionary: by the first letter in which they differ"

    private static void theFirstLetterThatDiffersDecides() {
        for (int place = 0; place < 6; place++) {
            for (int letter = 0; letter < 9; letter++) {
                String same = "739164".substring(0, place);
                ordered(same + letter, same + (letter + 1));
                ordered(same + letter + "99999".substring(place), same + (letter + 1) + "00000".substring(place));
                ordered(same + letter + "99999".substring(place), same + (letter + 1));
                ordered(same + letter, same + (letter + 1) + "00000".substring(place));
            }
        }
    }

    // Terms: "a term that is the beginning of a longer one comes before it"

    private static void aBeginningComesBeforeTheLonger() {
        for (String longer : new String[] {"000000", "999999", "900000", "099999", "102030"}) {
            for (int length = 2; length <= 6; length++) {
                for (int shorter = 1; shorter < length; shorter++) {
                    ordered(longer.substring(0, shorter), longer.substring(0, length));
                }
            }
        }
    }

    private static void ordered(String first, String second) {
        String what = "Terms: " + first + " before " + second;
        TermIndex up = Make.holding(first);
        Make.key(up, second);
        check.due(what + ", before", up.before(), 1);
        check.due(what + ", insert of the second", up.insert(), 1);
        check.termsAre(up, what, first, second);
        TermIndex down = Make.holding(second);
        Make.key(down, first);
        check.due(what + ", before of the first", down.before(), 0);
        check.due(what + ", insert of the first", down.insert(), 0);
        check.termsAre(down, what + " too", first, second);
    }

    // Terms: "The index holds at most 40 terms"

    private static void atMostFortyTermsAreHeld() {
        TermIndex x = new TermIndex();
        for (int i = 0; i < 60; i++) {
            Make.key(x, Make.twoLetters(i));
            check.due("Terms: insert number " + (i + 1), x.insert(), i < 40 ? i : -1);
        }
        check.stateIs(x, "Terms: after 60 inserts", "59", FULL);
    }

    // Terms: "each at most once"

    private static void eachTermIsHeldAtMostOnce() {
        String[] sorted = {"1", "11", "111", "1111", "11111", "111111"};
        TermIndex x = new TermIndex();
        for (int round = 0; round < 3; round++) {
            for (int i = 5; i >= 0; i--) {
                Make.key(x, sorted[i]);
                check.due("Terms: insert of " + sorted[i] + " in round " + round, x.insert(), round == 0 ? 0 : -1);
            }
        }
        check.due("Terms: delete of a term that was inserted three times", x.delete(), 0);
        check.due("Terms: second delete of it", x.delete(), -1);
        check.stateIs(x, "Terms: after the delete", "1", "11", "111", "1111", "11111", "111111");
    }

    // Terms: the key "is empty at the start"

    private static void theKeyIsEmptyAtTheStart() {
        check.stateIs(new TermIndex(), "Terms: at the start", "", NO_TERMS);
        check.due("Terms: type at the start", new TermIndex().type(0), 1);
        check.due("Terms: insert at the start", new TermIndex().insert(), -1);
        check.due("Terms: delete at the start", new TermIndex().delete(), -1);
    }

    // Terms: "none but type, back, erase and load changes it"

    private static void onlyFourCallsChangeTheKey() {
        for (String[] terms : HELD) {
            for (String letters : KEYS) {
                TermIndex x = Make.holdingWithKey(letters, terms);
                String what = "Terms: key " + letters + " beside " + terms.length + " terms after ";
                x.letter(0);
                check.keyIs(x, what + "letter", letters);
                x.size();
                check.keyIs(x, what + "size", letters);
                x.before();
                check.keyIs(x, what + "before", letters);
                x.held();
                check.keyIs(x, what + "held", letters);
                x.beginning();
                check.keyIs(x, what + "beginning", letters);
                x.common();
                check.keyIs(x, what + "common", letters);
                x.insert();
                check.keyIs(x, what + "insert", letters);
                x.delete();
                check.keyIs(x, what + "delete", letters);
                x.delete();
                check.keyIs(x, what + "a refused delete", letters);
            }
        }
    }

    // Promise 1: "No term is held; the key is empty."

    private static void aNewObjectHoldsNoTerm() {
        TermIndex other = Make.filled();
        TermIndex x = new TermIndex();
        check.due("1: size", x.size(), 0);
        check.due("1: load(0)", x.load(0), -1);
        check.due("1: beginning", x.beginning(), 0);
        check.due("1: common", x.common(), -1);
        check.stateIs(x, "1: a new object beside a full one", "", NO_TERMS);
        check.stateIs(other, "1: the full one", "39", FULL);
    }

    // Promise 2: "Answers -1 and changes nothing if letter is not from 0 to 9 or the key has 6 letters"

    private static void typeTakesZeroToNine() {
        for (int length = 0; length < 6; length++) {
            for (int letter = 0; letter <= 9; letter++) {
                String letters = "102938".substring(0, length);
                TermIndex x = Make.holdingWithKey(letters, SOME_TERMS);
                check.due("2: type(" + letter + ") behind " + letters, x.type(letter), length + 1);
                check.stateIs(x, "2: after type(" + letter + ")", letters + letter, SOME_TERMS);
            }
        }
    }

    private static void typeRefusesOtherLetters() {
        for (int length = 0; length <= 6; length++) {
            for (int letter : WRONG_LETTERS) {
                typeRefuses(letter, "123456".substring(0, length), SOME_TERMS);
            }
        }
        for (int letter : new int[] {-1, 10, Integer.MIN_VALUE, Integer.MAX_VALUE}) {
            typeRefuses(letter, "", NO_TERMS);
            typeRefuses(letter, "39", FULL);
        }
    }

    private static void typeRefusesASeventhLetter() {
        for (int letter = 0; letter <= 9; letter++) {
            for (String letters : new String[] {"000000", "123456", "908070", "999999"}) {
                typeRefuses(letter, letters, NO_TERMS);
                typeRefuses(letter, letters, SOME_TERMS);
                typeRefuses(letter, letters, FULL);
            }
        }
    }

    private static void typeRefuses(int letter, String letters, String... terms) {
        TermIndex x = Make.holdingWithKey(letters, terms);
        check.due("2: type(" + letter + ") behind " + letters, x.type(letter), -1);
        check.stateIs(x, "2: after type(" + letter + ") behind " + letters, letters, terms);
    }

    // Promise 3: "or -1 if the key is empty"

    private static void backRefusesTheEmptyKey() {
        check.due("3: back of a new object", new TermIndex().back(), -1);
        for (String[] terms : HELD) {
            TermIndex erased = Make.holdingWithKey("", terms);
            check.due("3: back after erase", erased.back(), -1);
            check.stateIs(erased, "3: after back of the empty key", "", terms);

            TermIndex taken = Make.holdingWithKey("08", terms);
            check.due("3: back takes the 8", taken.back(), 8);
            check.due("3: back takes the 0", taken.back(), 0);
            check.due("3: back with no letter left", taken.back(), -1);
            check.due("3: back with no letter left, again", taken.back(), -1);
            check.due("3: type after that", taken.type(7), 1);
            check.stateIs(taken, "3: after back with no letter left", "7", terms);
        }
    }

    // Promise 4: "Makes the key empty."

    private static void eraseEmptiesEveryKey() {
        for (String[] terms : HELD) {
            for (String letters : KEYS) {
                TermIndex x = Make.holdingWithKey(letters, terms);
                x.erase();
                check.stateIs(x, "4: after erase of " + letters, "", terms);
                Make.key(x, letters);
                x.erase();
                check.due("4: type after erase of " + letters, x.type(0), 1);
                check.keyIs(x, "4: key after erase and type", "0");
            }
        }
    }

    // Promise 5: "or -1, and changes nothing, if rank is not from 0 to the number of held terms less 1"

    private static void loadTakesTheFirstAndTheLastRank() {
        for (String[] terms : HELD) {
            for (int rank = 0; rank < terms.length; rank++) {
                TermIndex x = Make.holdingWithKey("808080", terms);
                check.due("5: load(" + rank + ") of " + terms.length, x.load(rank), terms[rank].length());
                check.stateIs(x, "5: after load(" + rank + ")", terms[rank], terms);
            }
        }
    }

    private static void loadRefusesOtherRanks() {
        for (String[] terms : HELD) {
            for (int rank : Make.numbersOutside(0, terms.length - 1)) {
                TermIndex x = Make.holdingWithKey("12", terms);
                check.due("5: load(" + rank + ") of " + terms.length, x.load(rank), -1);
                check.stateIs(x, "5: after load(" + rank + ") of " + terms.length, "12", terms);
            }
        }
    }

    private static void loadRefusesTheRankOfADeletedTerm() {
        for (String[] terms : HELD) {
            TermIndex x = Make.holding(terms);
            for (int left = terms.length - 1; left >= 0; left--) {
                x.load(left);
                x.delete();
                check.due("5: load(" + left + ") of " + left + " terms", x.load(left), -1);
                check.keyIs(x, "5: key after that", terms[left]);
            }
            check.due("5: load(0) of no terms", x.load(0), -1);
        }
    }

    // Promise 6: "-1 if there is none"

    private static void letterOfEveryPlace() {
        for (String letters : new String[] {"000000", "123456", "908070", "999999"}) {
            for (int length = 1; length <= 6; length++) {
                TermIndex x = Make.holdingWithKey(letters.substring(0, length));
                for (int place = 0; place < length; place++) {
                    check.due("6: letter(" + place + ")", x.letter(place), letters.charAt(place) - '0');
                }
            }
        }
    }

    private static void noLetterAtOtherPlaces() {
        for (int length = 0; length <= 6; length++) {
            String letters = "908172".substring(0, length);
            for (int place : Make.numbersOutside(0, length - 1)) {
                TermIndex x = Make.holdingWithKey(letters, SOME_TERMS);
                check.due("6: letter(" + place + ") of " + letters, x.letter(place), -1);
                check.stateIs(x, "6: after letter(" + place + ")", letters, SOME_TERMS);
            }
        }
    }

    private static void noLetterWhereOneWas() {
        TermIndex x = Make.holding("8", "987654");
        check.due("6: back", x.back(), 4);
        check.due("6: letter(5) after back", x.letter(5), -1);
        x.load(0);
        for (int place = 1; place < 6; place++) {
            check.due("6: letter(" + place + ") after load of a shorter term", x.letter(place), -1);
        }
        x.load(1);
        x.erase();
        for (int place = 0; place < 6; place++) {
            check.due("6: letter(" + place + ") after erase", x.letter(place), -1);
        }
    }

    // Promise 7: "-1, and changes nothing, if the key is empty, or is held, or 40 terms are held"

    private static void insertRefusesTheEmptyKey() {
        for (String[] terms : HELD) {
            insertRefuses("", terms);
        }
    }

    private static void insertRefusesAHeldKey() {
        for (String[] terms : HELD) {
            for (String held : terms) {
                insertRefuses(held, terms);
            }
        }
    }

    private static void insertTakesTheFortiethTerm() {
        for (int missing = 0; missing < 40; missing++) {
            TermIndex x = new TermIndex();
            for (int i = 0; i < 40; i++) {
                if (i != missing) {
                    Make.key(x, FULL[i]);
                    x.insert();
                }
            }
            Make.key(x, FULL[missing]);
            check.due("7: insert of a fortieth term", x.insert(), missing);
            check.stateIs(x, "7: after insert of a fortieth term", FULL[missing], FULL);
        }
    }

    private static void insertRefusesBesideFortyTerms() {
        for (String letters : new String[] {"0", "000", "000000", "001", "2", "205", "390", "399999", "4", "999999"}) {
            insertRefuses(letters, FULL);
        }
        TermIndex x = Make.holdingWithKey("20", FULL);
        x.delete();
        Make.key(x, "200000");
        check.due("7: insert when 39 are left of 40", x.insert(), 20);
        Make.key(x, "20");
        check.due("7: insert beside 40 again", x.insert(), -1);
        String[] changed = FULL.clone();
        changed[20] = "200000";
        check.stateIs(x, "7: after insert beside 40 again", "20", changed);
    }

    private static void insertRefuses(String letters, String... terms) {
        TermIndex x = Make.holdingWithKey(letters, terms);
        String what = "insert of '" + letters + "' beside " + terms.length + " terms";
        check.due("7: " + what, x.insert(), -1);
        check.stateIs(x, "7: after " + what, letters, terms);
    }

    // Promise 8: "-1, and changes nothing, if it is not held"

    private static void deleteRefusesAKeyThatIsNotHeld() {
        for (String letters : KEYS) {
            deleteRefuses(letters, NO_TERMS);
        }
        for (String letters : new String[] {"", "000", "08", "01", "1", "12345", "123455", "123457", "90", "99999", "999998"}) {
            deleteRefuses(letters, SOME_TERMS);
        }
        for (String letters : new String[] {"", "0", "000", "2", "205", "3", "390", "40", "999999"}) {
            deleteRefuses(letters, FULL);
        }
    }

    private static void deleteRefuses(String letters, String... terms) {
        TermIndex x = Make.holdingWithKey(letters, terms);
        String what = "delete of '" + letters + "' beside " + terms.length + " terms";
        check.due("8: " + what, x.delete(), -1);
        check.stateIs(x, "8: after " + what, letters, terms);
    }

    private static void deleteRefusesADeletedKey() {
        for (String[] terms : HELD) {
            for (int rank = 0; rank < terms.length; rank++) {
                TermIndex x = Make.holdingWithKey(terms[rank], terms);
                check.due("8: delete of " + terms[rank], x.delete(), rank);
                check.due("8: second delete of " + terms[rank], x.delete(), -1);
                check.stateIs(x, "8: after a second delete", terms[rank], without(terms, rank));
            }
        }
    }

    private static void deleteTakesTheFirstAndTheLast() {
        for (String[] terms : HELD) {
            TermIndex fromTheFirst = Make.holding(terms);
            TermIndex fromTheLast = Make.holding(terms);
            for (int left = terms.length - 1; left >= 0; left--) {
                Make.key(fromTheFirst, terms[terms.length - 1 - left]);
                check.due("8: delete of the first of " + (left + 1), fromTheFirst.delete(), 0);
                Make.key(fromTheLast, terms[left]);
                check.due("8: delete of the last of " + (left + 1), fromTheLast.delete(), left);
            }
            fromTheFirst.erase();
            check.stateIs(fromTheFirst, "8: after all deletes", "", NO_TERMS);
            fromTheLast.erase();
            check.stateIs(fromTheLast, "8: after all deletes from the last", "", NO_TERMS);
        }
    }

    private static String[] without(String[] terms, int rank) {
        String[] left = new String[terms.length - 1];
        System.arraycopy(terms, 0, left, 0, rank);
        System.arraycopy(terms, rank + 1, left, rank, left.length - rank);
        return left;
    }

    // Promise 9: "The number of terms held", from none to 40

    private static void sizeIsFromNoneToForty() {
        TermIndex x = new TermIndex();
        check.due("9: size with no terms", x.size(), 0);
        for (int i = 0; i < 40; i++) {
            Make.key(x, FULL[i]);
            x.insert();
            check.due("9: size after insert " + (i + 1), x.size(), i + 1);
        }
        for (int i = 39; i >= 0; i--) {
            x.load(i / 2);
            x.delete();
            check.due("9: size with " + i + " terms left", x.size(), i);
        }
    }

    private static void refusedCallsLeaveTheSize() {
        for (String[] terms : HELD) {
            TermIndex x = Make.holdingWithKey("", terms);
            x.insert();
            check.due("9: size after insert of the empty key", x.size(), terms.length);
            x.delete();
            check.due("9: size after delete of the empty key", x.size(), terms.length);
            Make.key(x, "777");
            x.delete();
            check.due("9: size after delete of a key that is not held", x.size(), terms.length);
            x.load(0);
            x.insert();
            check.due("9: size after insert of a held key", x.size(), terms.length == 0 ? 1 : terms.length);
        }
        TermIndex full = Make.holdingWithKey("777", FULL);
        full.insert();
        check.due("9: size after insert beside 40 terms", full.size(), 40);
    }

    // Promise 10: "the empty key comes before all terms"

    private static void theEmptyKeyComesBeforeAll() {
        for (String[] terms : HELD) {
            TermIndex x = Make.holdingWithKey("", terms);
            check.due("10: before of the empty key beside " + terms.length, x.before(), 0);
        }
        check.due("10: before of the empty key beside 0", Make.holdingWithKey("", "0").before(), 0);
        check.due("10: before of the empty key beside 000000", Make.holdingWithKey("", "000000").before(), 0);
    }

    private static void beforeCountsNoneToAll() {
        for (String[] terms : HELD) {
            TermIndex x = Make.holding(terms);
            for (int rank = 0; rank < terms.length; rank++) {
                Make.key(x, terms[rank]);
                check.due("10: before of the held " + terms[rank], x.before(), rank);
            }
            Make.key(x, "0");
            check.due("10: before of 0, the first of all terms", x.before(), 0);
            Make.key(x, "999999");
            boolean lastIsHeld = terms == SOME_TERMS;
            check.due("10: before of 999999, the last of all terms", x.before(), terms.length - (lastIsHeld ? 1 : 0));
        }
    }

    // Promise 11: "Whether the key is held as a term."

    private static void aHeldKeyIsHeld() {
        for (String[] terms : HELD) {
            TermIndex x = Make.holding(terms);
            for (String held : terms) {
                Make.key(x, held);
                check.due("11: held of " + held, x.held(), true);
            }
        }
    }

    private static void aKeyThatIsNotHeldIsNotHeld() {
        for (String letters : KEYS) {
            check.due("11: held of " + letters + " with no terms", Make.holdingWithKey(letters).held(), false);
        }
        for (String letters : new String[] {"000", "08", "1", "12345", "123455", "123457", "90", "99999", "999998"}) {
            TermIndex x = Make.holdingWithKey(letters, SOME_TERMS);
            check.due("11: held of " + letters + ", not held", x.held(), false);
        }
        for (String letters : new String[] {"0", "000", "2", "205", "3", "390", "40", "999999"}) {
            TermIndex x = Make.holdingWithKey(letters, FULL);
            check.due("11: held of " + letters + " beside 40 terms", x.held(), false);
            x.insert();
            check.due("11: held of " + letters + " after a refused insert", x.held(), false);
        }
        for (String letters : FULL) {
            TermIndex x = Make.holdingWithKey(letters, FULL);
            x.delete();
            check.due("11: held of " + letters + " after delete", x.held(), false);
        }
    }

    private static void theEmptyKeyIsNeverHeld() {
        for (String[] terms : HELD) {
            TermIndex x = Make.holdingWithKey("", terms);
            check.due("11: held of the empty key beside " + terms.length, x.held(), false);
            x.insert();
            check.due("11: held of the empty key after insert", x.held(), false);
        }
    }

    // Promise 12: "the term that is the key itself counts; with the empty key, all"

    private static void theKeyItselfCounts() {
        for (String term : new String[] {"0", "9", "00", "123", "9999", "10000", "000000", "999999"}) {
            TermIndex x = Make.holding(term);
            check.due("12: beginning of " + term + " beside itself", x.beginning(), 1);
            x.delete();
            check.due("12: beginning of " + term + " after delete", x.beginning(), 0);
        }
        TermIndex x = Make.holding("4", "44", "444", "4444", "44444", "444444");
        for (int length = 6; length >= 1; length--) {
            check.due("12: beginning at " + length + " letters", x.beginning(), 7 - length);
            x.back();
        }
    }

    private static void allBeginWithTheEmptyKey() {
        for (String[] terms : HELD) {
            TermIndex x = Make.holdingWithKey("", terms);
            check.due("12: beginning of the empty key beside " + terms.length, x.beginning(), terms.length);
        }
    }

    private static void onlyWholeBeginningsCount() {
        TermIndex x = Make.holding("1", "12", "2", "212", "999998");
        String[] keys = {"120", "11", "13", "22", "211", "2120", "999999", "99999", "0", "3"};
        int[] counts = {0, 0, 0, 0, 0, 0, 0, 1, 0, 0};
        for (int i = 0; i < keys.length; i++) {
            Make.key(x, keys[i]);
            check.due("12: beginning of " + keys[i], x.beginning(), counts[i]);
        }
    }

    // Promise 13: "-1 if no term is held"

    private static void nothingIsInCommonWithNoTerm() {
        for (String letters : KEYS) {
            check.due("13: common of " + letters + " with no terms", Make.holdingWithKey(letters).common(), -1);
        }
        TermIndex x = Make.holding("123");
        x.delete();
        check.due("13: common after delete of the only term", x.common(), -1);
        x.erase();
        check.due("13: common of the empty key after delete of the only term", x.common(), -1);
    }

    private static void commonCountsNoneToSixLetters() {
        TermIndex one = Make.holding("102938");
        for (int length = 6; length >= 0; length--) {
            check.due("13: common of a beginning of the only term", one.common(), length);
            one.back();
        }
        String[] keys = {"", "0", "2", "11", "1029", "103", "102939", "102938", "999999"};
        int[] counts = {0, 0, 0, 1, 4, 2, 5, 6, 0};
        for (int i = 0; i < keys.length; i++) {
            Make.key(one, keys[i]);
            check.due("13: common of " + keys[i], one.common(), counts[i]);
        }
        for (String term : new String[] {"0", "00", "000", "0000", "00000", "000000"}) {
            TermIndex x = Make.holdingWithKey("000000", term);
            check.due("13: common of 000000 and " + term, x.common(), term.length());
        }
        for (String[] terms : HELD) {
            TermIndex x = Make.holdingWithKey("", terms);
            check.due("13: common of the empty key beside " + terms.length, x.common(), terms.length == 0 ? -1 : 0);
        }
    }
}

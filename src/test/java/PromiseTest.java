/** Each promise of the document by hand: ordinary inputs, the edges that it names, wrong inputs. */
final class PromiseTest {
    private static final int[] WRONG_LETTERS = {-1, 10, -2, 11, 16, -16, 100, Integer.MIN_VALUE, Integer.MAX_VALUE};
    private static final Check check = new Check("PromiseTest");

    public static void main(String[] args) {
        aNewObject();
        objectsAreApart();
        typeAddsLetters();
        typeRefusesWrongLetters();
        typeRefusesASeventhLetter();
        backTakesTheLastLetter();
        eraseEmptiesTheKey();
        loadTakesATerm();
        loadRefusesWrongRanks();
        loadCopiesTheTerm();
        letterAtAPlace();
        insertAnswersTheRank();
        insertRefuses();
        insertUpToFortyTerms();
        deleteAnswersTheRank();
        deleteRefuses();
        deleteFromAFullIndex();
        sizeCounts();
        beforeCounts();
        heldTells();
        beginningCounts();
        commonCounts();
        queriesChangeNothing();
        theExampleOfTheReadme();
        check.end();
    }

    // Promise 1

    private static void aNewObject() {
        TermIndex x = new TermIndex();
        check.due("1: size of a new object", x.size(), 0);
        check.due("1: held of a new object", x.held(), false);
        check.due("1: before of a new object", x.before(), 0);
        check.due("1: beginning of a new object", x.beginning(), 0);
        check.due("1: common of a new object", x.common(), -1);
        check.due("1: load(0) of a new object", x.load(0), -1);
        check.keyIs(x, "1: key of a new object", "");
        check.due("1: back of a new object", x.back(), -1);
        check.due("1: first type on a new object", x.type(4), 1);
    }

    private static void objectsAreApart() {
        TermIndex one = Make.holding("12", "3");
        TermIndex two = new TermIndex();
        check.due("1: size beside another object", two.size(), 0);
        check.keyIs(two, "1: key beside another object", "");
        Make.key(two, "45");
        two.insert();
        check.keyIs(one, "1: key of the other object", "3");
        check.termsAre(one, "1: terms of the other object", "12", "3");
    }

    // Promise 2

    private static void typeAddsLetters() {
        for (int letter = 0; letter <= 9; letter++) {
            TermIndex x = new TermIndex();
            check.due("2: type(" + letter + ")", x.type(letter), 1);
            check.keyIs(x, "2: key after type(" + letter + ")", "" + letter);
        }
        TermIndex x = new TermIndex();
        String letters = "907080";
        for (int i = 0; i < 6; i++) {
            check.due("2: letter " + i + " of 907080", x.type(letters.charAt(i) - '0'), i + 1);
            check.keyIs(x, "2: key after letter " + i, letters.substring(0, i + 1));
        }
    }

    private static void typeRefusesWrongLetters() {
        TermIndex x = Make.holding("7");
        Make.key(x, "305");
        for (int letter : WRONG_LETTERS) {
            check.due("2: type(" + letter + ")", x.type(letter), -1);
            check.keyIs(x, "2: key after type(" + letter + ")", "305");
        }
        x.erase();
        for (int letter : WRONG_LETTERS) {
            check.due("2: type(" + letter + ") on the empty key", x.type(letter), -1);
            check.keyIs(x, "2: empty key after type(" + letter + ")", "");
        }
        check.due("2: type(0) after refusals", x.type(0), 1);
        check.termsAre(x, "2: terms after type", "7");
    }

    private static void typeRefusesASeventhLetter() {
        TermIndex x = new TermIndex();
        Make.key(x, "123456");
        for (int letter = 0; letter <= 9; letter++) {
            check.due("2: seventh letter " + letter, x.type(letter), -1);
            check.keyIs(x, "2: key after a seventh letter", "123456");
        }
        check.due("2: seventh letter that is wrong", x.type(10), -1);
        check.due("2: back from six letters", x.back(), 6);
        check.due("2: sixth letter again", x.type(9), 6);
        check.keyIs(x, "2: key with another sixth letter", "123459");
    }

    // Promise 3

    private static void backTakesTheLastLetter() {
        TermIndex x = Make.holding("908172");
        String letters = "908172";
        for (int i = 5; i >= 0; i--) {
            check.due("3: back at " + (i + 1) + " letters", x.back(), letters.charAt(i) - '0');
            check.keyIs(x, "3: key after back", letters.substring(0, i));
        }
        check.due("3: back on the empty key", x.back(), -1);
        check.due("3: back on the empty key again", x.back(), -1);
        check.keyIs(x, "3: key after back on the empty key", "");
        check.due("3: type after back on the empty key", x.type(5), 1);
        check.due("3: type 8", x.type(8), 2);
        check.due("3: back takes 8", x.back(), 8);
        check.due("3: type 1 where 8 was", x.type(1), 2);
        check.keyIs(x, "3: key with 1 where 8 was", "51");
        check.termsAre(x, "3: terms after back", "908172");

        TermIndex loaded = Make.holding("40", "41");
        loaded.load(0);
        check.due("3: back after load", loaded.back(), 0);
        check.keyIs(loaded, "3: key after load and back", "4");
    }

    // Promise 4

    private static void eraseEmptiesTheKey() {
        String[] keys = {"", "0", "9", "35", "123", "1234", "12345", "987654"};
        for (String before : keys) {
            TermIndex x = Make.holding("35", "6");
            Make.key(x, before);
            x.erase();
            check.keyIs(x, "4: key after erase of " + before, "");
            check.due("4: back after erase", x.back(), -1);
            check.due("4: before after erase", x.before(), 0);
            check.due("4: held after erase", x.held(), false);
            check.due("4: type after erase", x.type(0), 1);
            check.keyIs(x, "4: key after erase and type", "0");
            check.termsAre(x, "4: terms after erase", "35", "6");
        }
    }

    // Promise 5

    private static void loadTakesATerm() {
        TermIndex x = Make.holding("5", "50", "507", "0000", "99999", "123456");
        String[] sorted = {"0000", "123456", "5", "50", "507", "99999"};
        for (int from = 0; from < 6; from++) {
            for (int rank = 0; rank < 6; rank++) {
                x.load(from);
                check.due("5: load(" + rank + ")", x.load(rank), sorted[rank].length());
                check.keyIs(x, "5: key after load(" + rank + ")", sorted[rank]);
            }
        }
        Make.key(x, "5");
        x.delete();
        check.due("5: load(2) after a delete", x.load(2), 2);
        check.keyIs(x, "5: key after load(2) after a delete", "50");
        check.due("5: load(5) after a delete", x.load(5), -1);
        check.keyIs(x, "5: key after the refused load", "50");
    }

    private static void loadRefusesWrongRanks() {
        TermIndex x = Make.holding("1", "22", "333");
        Make.key(x, "4567");
        int[] ranks = {-1, 3, 4, 39, 40, 41, -40, Integer.MIN_VALUE, Integer.MAX_VALUE};
        for (int rank : ranks) {
            check.due("5: load(" + rank + ") of 3 terms", x.load(rank), -1);
            check.keyIs(x, "5: key after load(" + rank + ")", "4567");
        }
        check.termsAre(x, "5: terms after refused loads", "1", "22", "333");
        TermIndex none = new TermIndex();
        Make.key(none, "8");
        for (int rank : ranks) {
            check.due("5: load(" + rank + ") of no term", none.load(rank), -1);
        }
        check.due("5: load(0) of no term", none.load(0), -1);
        check.keyIs(none, "5: key after loads of no term", "8");

        TermIndex full = Make.filled();
        full.erase();
        check.due("5: load(40) of 40 terms", full.load(40), -1);
        check.due("5: load(-1) of 40 terms", full.load(-1), -1);
        check.keyIs(full, "5: key after refused loads of 40 terms", "");
        check.due("5: load(39) of 40 terms", full.load(39), 2);
        check.keyIs(full, "5: key after load(39)", "39");
    }

    private static void loadCopiesTheTerm() {
        TermIndex x = Make.holding("12", "345");
        x.load(0);
        check.due("5: type after load", x.type(7), 3);
        check.keyIs(x, "5: key after load and type", "127");
        check.termsAre(x, "5: terms after load and type", "12", "345");
        x.load(1);
        x.back();
        check.termsAre(x, "5: terms after load and back", "12", "345");
        x.load(1);
        x.erase();
        check.termsAre(x, "5: terms after load and erase", "12", "345");
    }

    // Promise 6

    private static void letterAtAPlace() {
        String[] keys = {"", "0", "9", "00", "10", "012", "9876", "40404", "987650"};
        int[] wrong = {-1, -2, -6, 6, 7, 8, 9, 14, 16, 32, 64, 1 << 28, 1 << 29, 1 << 30,
            Integer.MIN_VALUE, Integer.MIN_VALUE + 1, Integer.MAX_VALUE, Integer.MAX_VALUE - 1};
        for (String letters : keys) {
            TermIndex x = new TermIndex();
            Make.key(x, letters);
            for (int place = 0; place < 6; place++) {
                int want = place < letters.length() ? letters.charAt(place) - '0' : -1;
                check.due("6: letter(" + place + ") of " + letters, x.letter(place), want);
            }
            for (int place : wrong) {
                check.due("6: letter(" + place + ") of " + letters, x.letter(place), -1);
            }
            check.keyIs(x, "6: key after letter", letters);
        }
    }

    // Promise 7

    private static void insertAnswersTheRank() {
        TermIndex x = new TermIndex();
        String[] terms = {"5", "3", "9", "50", "499999", "000000", "0", "999999", "31", "3000"};
        int[] ranks = {0, 0, 2, 2, 1, 0, 0, 7, 3, 3};
        for (int i = 0; i < terms.length; i++) {
            Make.key(x, terms[i]);
            check.due("7: insert of " + terms[i], x.insert(), ranks[i]);
            check.keyIs(x, "7: key after insert", terms[i]);
            check.due("7: held after insert", x.held(), true);
        }
        check.termsAre(x, "7: terms after inserts",
            "0", "000000", "3", "3000", "31", "499999", "5", "50", "9", "999999");

        TermIndex growing = new TermIndex();
        for (int length = 1; length <= 6; length++) {
            growing.type(2);
            check.due("7: insert of a longer key", growing.insert(), length - 1);
        }
        check.termsAre(growing, "7: terms of a growing key", "2", "22", "222", "2222", "22222", "222222");
    }

    private static void insertRefuses() {
        TermIndex x = new TermIndex();
        check.due("7: insert of the empty key", x.insert(), -1);
        check.due("7: size after insert of the empty key", x.size(), 0);
        Make.key(x, "64");
        check.due("7: first insert", x.insert(), 0);
        check.due("7: second insert of the same", x.insert(), -1);
        check.keyIs(x, "7: key after a refused insert", "64");
        check.termsAre(x, "7: terms after a refused insert", "64");
        Make.key(x, "1");
        x.insert();
        Make.key(x, "64");
        check.due("7: insert of a held key at rank 1", x.insert(), -1);
        Make.key(x, "1");
        check.due("7: insert of a held key at rank 0", x.insert(), -1);
        x.erase();
        check.due("7: insert of the empty key beside terms", x.insert(), -1);
        check.keyIs(x, "7: empty key after a refused insert", "");
        check.termsAre(x, "7: terms after refused inserts", "1", "64");
    }

    private static void insertUpToFortyTerms() {
        TermIndex x = new TermIndex();
        for (int i = 0; i < 40; i++) {
            Make.key(x, Make.twoLetters(i));
            check.due("7: insert of term " + i, x.insert(), i);
        }
        String[] refused = {"0", "001", "205", "39", "390", "9", "00"};
        for (String term : refused) {
            Make.key(x, term);
            check.due("7: insert of " + term + " beside 40 terms", x.insert(), -1);
            check.keyIs(x, "7: key after a refused insert beside 40 terms", term);
        }
        check.due("7: size after refused inserts", x.size(), 40);
        for (int i = 0; i < 40; i++) {
            x.load(i);
            check.keyIs(x, "7: term " + i + " of 40", Make.twoLetters(i));
        }

        TermIndex downwards = new TermIndex();
        for (int i = 39; i >= 0; i--) {
            Make.key(downwards, Make.twoLetters(i));
            check.due("7: insert downwards of term " + i, downwards.insert(), 0);
        }
        for (int i = 0; i < 40; i++) {
            downwards.load(i);
            check.keyIs(downwards, "7: term " + i + " of 40 inserted downwards", Make.twoLetters(i));
        }
    }

    // Promise 8

    private static void deleteAnswersTheRank() {
        TermIndex x = Make.holding("1", "12", "2", "20", "3");
        Make.key(x, "2");
        check.due("8: delete in the middle", x.delete(), 2);
        check.keyIs(x, "8: key after delete", "2");
        check.due("8: held after delete", x.held(), false);
        check.termsAre(x, "8: terms after delete in the middle", "1", "12", "20", "3");
        Make.key(x, "1");
        check.due("8: delete of the first", x.delete(), 0);
        check.termsAre(x, "8: terms after delete of the first", "12", "20", "3");
        Make.key(x, "3");
        check.due("8: delete of the last", x.delete(), 2);
        check.due("8: delete of the last again", x.delete(), -1);
        check.due("8: held after delete of the last", x.held(), false);
        check.termsAre(x, "8: terms after delete of the last", "12", "20");
        Make.key(x, "3");
        check.due("8: insert after delete", x.insert(), 2);
        Make.key(x, "12");
        check.due("8: delete of 12", x.delete(), 0);
        Make.key(x, "20");
        check.due("8: delete of 20", x.delete(), 0);
        Make.key(x, "3");
        check.due("8: delete of the only term", x.delete(), 0);
        check.due("8: delete of no term", x.delete(), -1);
        check.due("8: size after all deletes", x.size(), 0);
        check.due("8: common after all deletes", x.common(), -1);
    }

    private static void deleteRefuses() {
        TermIndex x = new TermIndex();
        check.due("8: delete of the empty key", x.delete(), -1);
        Make.key(x, "0");
        check.due("8: delete from no terms", x.delete(), -1);
        x = Make.holding("00", "5", "567");
        String[] notHeld = {"", "0", "000", "000000", "4", "56", "5670", "566", "568", "50", "9"};
        for (String term : notHeld) {
            Make.key(x, term);
            check.due("8: delete of " + term + ", not held", x.delete(), -1);
            check.keyIs(x, "8: key after a refused delete", term);
        }
        check.termsAre(x, "8: terms after refused deletes", "00", "5", "567");
    }

    private static void deleteFromAFullIndex() {
        int[] deleted = {0, 1, 20, 38, 39};
        for (int gone : deleted) {
            TermIndex x = Make.filled();
            Make.key(x, Make.twoLetters(gone));
            check.due("8: delete of term " + gone + " of 40", x.delete(), gone);
            check.due("8: size after delete from 40", x.size(), 39);
            for (int i = 0; i < 39; i++) {
                x.load(i);
                check.keyIs(x, "8: term " + i + " after delete of " + gone, Make.twoLetters(i < gone ? i : i + 1));
            }
            Make.key(x, "999999");
            check.due("8: insert in the place that came free", x.insert(), 39);
            Make.key(x, Make.twoLetters(gone));
            check.due("8: insert beside 40 terms again", x.insert(), -1);
        }
    }

    // Promise 9

    private static void sizeCounts() {
        TermIndex x = new TermIndex();
        for (int i = 0; i < 40; i++) {
            check.due("9: size with " + i + " terms", x.size(), i);
            Make.key(x, Make.twoLetters(i * 7 % 40));
            x.insert();
        }
        check.due("9: size with 40 terms", x.size(), 40);
        x.insert();
        Make.key(x, "9");
        x.insert();
        x.delete();
        check.due("9: size after refusals", x.size(), 40);
        for (int i = 39; i >= 0; i--) {
            x.load(0);
            x.delete();
            check.due("9: size after deletes", x.size(), i);
        }
        x.delete();
        check.due("9: size after a refused delete", x.size(), 0);
    }

    // Promise 10

    private static void beforeCounts() {
        TermIndex x = Make.holding("0", "00", "1", "12", "122", "123", "13", "2", "999999");
        String[] keys = {"", "0", "00", "000", "01", "1", "10", "12", "120", "122", "1220", "123", "124", "129999",
            "13", "19", "2", "20", "3", "9", "999998", "99999", "999999"};
        int[] counts = {0, 0, 1, 2, 2, 2, 3, 3, 4, 4, 5, 5, 6, 6, 6, 7, 7, 8, 8, 8, 8, 8, 8};
        for (int i = 0; i < keys.length; i++) {
            Make.key(x, keys[i]);
            check.due("10: before of " + keys[i], x.before(), counts[i]);
        }
        TermIndex y = Make.filled();
        Make.key(y, "4");
        check.due("10: before of a key behind 40 terms", y.before(), 40);
        y.erase();
        check.due("10: before of the empty key beside 40 terms", y.before(), 0);
        TermIndex none = new TermIndex();
        Make.key(none, "999999");
        check.due("10: before with no term", none.before(), 0);
    }

    // Promise 11

    private static void heldTells() {
        TermIndex x = Make.holding("0", "000", "12", "123456", "9");
        String[] held = {"0", "000", "12", "123456", "9"};
        String[] notHeld = {"", "00", "0000", "000000", "1", "120", "123", "12345", "123455", "123457", "90", "99", "8"};
        for (String term : held) {
            Make.key(x, term);
            check.due("11: held of " + term, x.held(), true);
        }
        for (String term : notHeld) {
            Make.key(x, term);
            check.due("11: held of " + term, x.held(), false);
        }
        Make.key(x, "9");
        x.delete();
        check.due("11: held after delete", x.held(), false);
        x.insert();
        check.due("11: held after insert again", x.held(), true);
        TermIndex y = Make.filled();
        Make.key(y, "39");
        check.due("11: held of the last of 40", y.held(), true);
        Make.key(y, "40");
        check.due("11: held of a key behind 40 terms", y.held(), false);
    }

    // Promise 12

    private static void beginningCounts() {
        TermIndex x = Make.holding("0", "00", "000000", "1", "12", "123", "1234", "13", "21", "321");
        String[] keys = {"", "0", "00", "000", "000000", "000001", "1", "12", "123", "1234", "12345", "13", "130", "11",
            "2", "21", "3", "32", "321", "9"};
        int[] counts = {10, 3, 2, 1, 1, 0, 5, 3, 2, 1, 0, 1, 0, 0, 1, 1, 1, 1, 1, 0};
        for (int i = 0; i < keys.length; i++) {
            Make.key(x, keys[i]);
            check.due("12: beginning of " + keys[i], x.beginning(), counts[i]);
        }
        Make.key(x, "12");
        x.delete();
        check.due("12: beginning of a key that is held no longer", x.beginning(), 2);
        TermIndex y = Make.filled();
        y.erase();
        check.due("12: beginning of the empty key beside 40 terms", y.beginning(), 40);
        Make.key(y, "3");
        check.due("12: beginning of 3 beside 40 terms", y.beginning(), 10);
        TermIndex none = new TermIndex();
        check.due("12: beginning of the empty key with no term", none.beginning(), 0);
        Make.key(none, "1");
        check.due("12: beginning with no term", none.beginning(), 0);
    }

    // Promise 13

    private static void commonCounts() {
        TermIndex none = new TermIndex();
        check.due("13: common with no term", none.common(), -1);
        Make.key(none, "123");
        check.due("13: common of a key with no term", none.common(), -1);

        TermIndex x = Make.holding("12", "1245", "30000", "5", "707070");
        String[] keys = {"", "0", "1", "10", "12", "123", "124", "1246", "1245", "124500", "2", "3", "300000", "30000",
            "31", "5", "50", "555555", "707070", "707071", "70", "71", "9"};
        int[] counts = {0, 0, 1, 1, 2, 2, 3, 3, 4, 4, 0, 1, 5, 5, 1, 1, 1, 1, 6, 5, 2, 1, 0};
        for (int i = 0; i < keys.length; i++) {
            Make.key(x, keys[i]);
            check.due("13: common of " + keys[i], x.common(), counts[i]);
        }
        Make.key(x, "1245");
        x.delete();
        check.due("13: common after delete", x.common(), 2);

        TermIndex y = Make.filled();
        Make.key(y, "395");
        check.due("13: common with the last of 40", y.common(), 2);
        Make.key(y, "000");
        check.due("13: common with the first of 40", y.common(), 2);
        y.erase();
        check.due("13: common of the empty key beside 40 terms", y.common(), 0);
    }

    private static void queriesChangeNothing() {
        TermIndex x = Make.holding("12", "123", "4");
        String[] keys = {"", "1", "12", "9"};
        for (String letters : keys) {
            Make.key(x, letters);
            x.letter(0);
            x.size();
            x.before();
            x.held();
            x.beginning();
            x.common();
            check.keyIs(x, "Terms: key after queries", letters);
            check.termsAre(x, "Terms: terms after queries", "12", "123", "4");
        }
    }

    // What README.md says of its example must stay true.

    private static void theExampleOfTheReadme() {
        TermIndex index = new TermIndex();
        check.due("README: type(1)", index.type(1), 1);
        check.due("README: type(2)", index.type(2), 2);
        check.due("README: insert of 1 2", index.insert(), 0);
        check.due("README: type(3)", index.type(3), 3);
        check.due("README: insert of 1 2 3", index.insert(), 1);
        check.due("README: second insert of 1 2 3", index.insert(), -1);
        check.due("README: back", index.back(), 3);
        check.due("README: held", index.held(), true);
        check.due("README: beginning", index.beginning(), 2);
        check.due("README: before", index.before(), 0);
        check.due("README: load(1)", index.load(1), 3);
        check.due("README: letter(2)", index.letter(2), 3);
        check.due("README: delete", index.delete(), 1);
        check.due("README: common", index.common(), 2);
        check.due("README: size", index.size(), 1);
        index.erase();
        check.keyIs(index, "README: key after erase", "");
    }
}

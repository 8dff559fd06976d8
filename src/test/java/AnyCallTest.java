import java.util.List;
import java.util.function.ObjIntConsumer;

/** All 512 calls of an object answer as due; no call throws or fails to end, in no state, with no argument. */
final class AnyCallTest {
    private static final int CALLS = 512;
    private static final Check check = new Check("AnyCallTest");

    private static final List<ObjIntConsumer<TermIndex>> KINDS = List.of(
        TermIndex::type, (x, n) -> x.back(), (x, n) -> x.erase(), TermIndex::load, TermIndex::letter,
        (x, n) -> x.insert(), (x, n) -> x.delete(), (x, n) -> x.size(), (x, n) -> x.before(),
        (x, n) -> x.held(), (x, n) -> x.beginning(), (x, n) -> x.common());

    public static void main(String[] args) {
        typeAndBackForAllCalls();
        insertAndDeleteForAllCalls();
        insertAndDeleteBesideFullForAllCalls();
        oneKindForAllCalls();
        questionsForAllCalls();
        noCallThrows();
        check.end();
    }

    // What it is: "An object is used for at most 512 calls after it has been made"

    private static void typeAndBackForAllCalls() {
        TermIndex x = new TermIndex();
        for (int call = 1; call <= CALLS; call++) {
            int step = (call - 1) % 14;
            if (step < 7) {
                check.due("call " + call + ", type", x.type(step), step < 6 ? step + 1 : -1);
            } else {
                check.due("call " + call + ", back", x.back(), step < 13 ? 12 - step : -1);
            }
        }
    }

    private static void insertAndDeleteForAllCalls() {
        TermIndex x = new TermIndex();
        x.type(7);
        for (int call = 2; call <= CALLS; call++) {
            boolean second = call % 2 == 1;
            check.due("call " + call + ", insert or delete", second ? x.delete() : x.insert(), 0);
        }
    }

    private static void insertAndDeleteBesideFullForAllCalls() {
        TermIndex x = Make.filled();
        for (int call = 161; call <= CALLS; call++) {
            int step = call % 4;
            if (step == 1) {
                check.due("call " + call + ", delete of the last of 40", x.delete(), 39);
            } else if (step == 2) {
                check.due("call " + call + ", second delete", x.delete(), -1);
            } else if (step == 3) {
                check.due("call " + call + ", insert of the last of 40", x.insert(), 39);
            } else {
                check.due("call " + call + ", second insert", x.insert(), -1);
            }
        }
    }

    private static void oneKindForAllCalls() {
        for (int kind = 0; kind < KINDS.size(); kind++) {
            TermIndex x = new TermIndex();
            for (int call = 1; call <= CALLS - 11; call++) {
                // On a new object, each kind with a 10 is refused or has nothing to change.
                KINDS.get(kind).accept(x, 10);
            }
            String what = "after 501 calls of kind " + kind + ", ";
            check.due(what + "type", x.type(3), 1);
            check.due(what + "insert", x.insert(), 0);
            check.due(what + "size", x.size(), 1);
            check.due(what + "before", x.before(), 0);
            check.due(what + "held", x.held(), true);
            check.due(what + "beginning", x.beginning(), 1);
            check.due(what + "common", x.common(), 1);
            check.due(what + "back", x.back(), 3);
            check.due(what + "load", x.load(0), 1);
            check.due(what + "letter", x.letter(0), 3);
            check.due(what + "delete, call 512", x.delete(), 0);
        }
    }

    private static void questionsForAllCalls() {
        TermIndex x = Make.filled();
        for (int call = 161; call <= CALLS; call++) {
            switch (call % 6) {
                case 0 -> check.due("call " + call + ", letter", x.letter(0), 3);
                case 1 -> check.due("call " + call + ", size", x.size(), 40);
                case 2 -> check.due("call " + call + ", before", x.before(), 39);
                case 3 -> check.due("call " + call + ", held", x.held(), true);
                case 4 -> check.due("call " + call + ", beginning", x.beginning(), 1);
                default -> check.due("call " + call + ", common", x.common(), 2);
            }
        }
    }

    // LANGUAGE.md, rule 7: "No call may ever throw or fail to end, for any arguments in any state".
    // That has no end at the 512th call, so each object takes far more calls here, whose answers are free.

    private static void noCallThrows() {
        int[] numbers = Make.numbersOutside(0, -1);
        for (int held : new int[] {0, 1, 2, 38, 39, 40}) {
            for (String letters : new String[] {"", "0", "9", "00", "01", "39", "390", "1234", "12345", "000000", "999999"}) {
                for (int kind = 0; kind < KINDS.size(); kind++) {
                    TermIndex x = Make.holdingWithKey(letters, Make.twoLetterTerms(held));
                    callWithAll(numbers, x, kind, "beside " + held + " terms with the key " + letters);
                }
            }
        }
    }

    private static void callWithAll(int[] numbers, TermIndex x, int kind, String state) {
        for (int number : numbers) {
            try {
                KINDS.get(kind).accept(x, number);
            } catch (RuntimeException | Error thrown) {
                check.due("call of kind " + kind + " with " + number + " " + state + ", " + thrown, true, false);
            }
        }
        check.due("calls of kind " + kind + " " + state, true, true);
    }
}

import java.util.ArrayList;
import java.util.Collections;
import java.util.List;

/**
 * Compares runs of calls with a model made of strings, whose natural order is the order of terms.
 * The runs come from a fixed arithmetic row, so that each run of the test makes the same calls.
 */
final class ModelTest {
    private static final int CALLS = 512;
    private static final int RUNS = 3000;
    private static final int[] ODD_NUMBERS = {-1, 6, 10, 40, Integer.MIN_VALUE, Integer.MAX_VALUE};
    private static final Check check = new Check("ModelTest");

    private final List<String> terms = new ArrayList<>();
    private final TermIndex index = new TermIndex();
    private final int run;
    private final int letters;
    private String key = "";
    private long row;
    private int call = 0;

    private ModelTest(int run) {
        this.run = run;
        // Few letters make held keys and shared beginnings common; many make a full index common.
        this.letters = 1 + run % 10;
        this.row = run;
    }

    public static void main(String[] args) {
        int mostHeld = 0;
        for (int run = 0; run < RUNS; run++) {
            ModelTest test = new ModelTest(run);
            mostHeld = Math.max(mostHeld, test.go());
        }
        check.due("the most terms that a run held", mostHeld, 40);
        check.end();
    }

    private int go() {
        int mostHeld = 0;
        while (call < CALLS) {
            step(next(100));
            mostHeld = Math.max(mostHeld, terms.size());
        }
        return mostHeld;
    }

    private int next(int bound) {
        row = row * 6364136223846793005L + 1442695040888963407L;
        return (int) ((row >>> 33) % bound);
    }

    /** Mostly a number below the bound, now and then one that is out of every range. */
    private int argument(int bound) {
        return next(20) == 0 ? ODD_NUMBERS[next(ODD_NUMBERS.length)] : next(bound);
    }

    private void step(int choice) {
        if (choice < 38) {
            type(argument(letters));
        } else if (choice < 46) {
            back();
        } else if (choice < 52) {
            call++;
            index.erase();
            key = "";
        } else if (choice < 58) {
            load(argument(terms.size() + 1));
        } else if (choice < 64) {
            int place = argument(7);
            due("letter(" + place + ")", index.letter(place),
                place >= 0 && place < key.length() ? key.charAt(place) - '0' : -1);
        } else if (choice < 80) {
            insert();
        } else if (choice < 80 + run % 5) {
            delete();
        } else {
            ask(choice % 5);
        }
    }

    private void type(int letter) {
        int want = -1;
        if (letter >= 0 && letter <= 9 && key.length() < 6) {
            key += letter;
            want = key.length();
        }
        due("type(" + letter + ")", index.type(letter), want);
    }

    private void back() {
        int want = -1;
        if (!key.isEmpty()) {
            want = key.charAt(key.length() - 1) - '0';
            key = key.substring(0, key.length() - 1);
        }
        due("back()", index.back(), want);
    }

    private void load(int rank) {
        int want = -1;
        if (rank >= 0 && rank < terms.size()) {
            key = terms.get(rank);
            want = key.length();
        }
        due("load(" + rank + ")", index.load(rank), want);
    }

    private void insert() {
        int want = -1;
        if (!key.isEmpty() && !terms.contains(key) && terms.size() < 40) {
            terms.add(key);
            Collections.sort(terms);
            want = terms.indexOf(key);
        }
        due("insert()", index.insert(), want);
    }

    private void delete() {
        int want = terms.indexOf(key);
        terms.remove(key);
        due("delete()", index.delete(), want);
    }

    private void ask(int question) {
        switch (question) {
            case 0 -> due("size()", index.size(), terms.size());
            case 1 -> due("before()", index.before(), Plain.before(terms, key));
            case 2 -> due("held()", index.held() ? 1 : 0, terms.contains(key) ? 1 : 0);
            case 3 -> due("beginning()", index.beginning(), Plain.beginning(terms, key));
            default -> due("common()", index.common(), Plain.common(terms, key));
        }
    }

    private void due(String what, int got, int want) {
        call++;
        check.due("run " + run + ", call " + call + ", key " + key + " then: " + what, got, want);
    }
}

import java.util.List;

/** Counts and prints the answers that are not as due; each test ends with end(). */
final class Check {
    // One fault can show in very many answers; the first of them are enough to find it.
    private static final int MOST_PRINTED = 50;
    // The tests need a few seconds; far beyond that, a call does not end.
    private static final int MOST_SECONDS = 120;

    private final String test;
    private int made = 0;
    private int wrong = 0;

    Check(String test) {
        this.test = test;
        Thread guard = new Thread(this::failIfItDoesNotEnd);
        guard.setDaemon(true);
        guard.start();
    }

    private void failIfItDoesNotEnd() {
        try {
            Thread.sleep(MOST_SECONDS * 1000L);
        } catch (InterruptedException stopped) {
            return;
        }
        System.out.println(test + ": has not ended after " + MOST_SECONDS + " seconds");
        Runtime.getRuntime().halt(1);
    }

    void due(String what, int got, int want) {
        made++;
        if (got != want) {
            wrong++;
            tell(what, got, want);
        }
    }

    private void tell(String what, int got, int want) {
        if (wrong <= MOST_PRINTED) {
            System.out.println(test + ": " + what + " answered " + got + ", due is " + want);
        }
    }

    void due(String what, boolean got, boolean want) {
        due(what, got ? 1 : 0, want ? 1 : 0);
    }

    void keyIs(TermIndex x, String what, String letters) {
        for (int place = 0; place < letters.length(); place++) {
            due(what + ", letter(" + place + ")", x.letter(place), letters.charAt(place) - '0');
        }
        due(what + ", letter(" + letters.length() + ")", x.letter(letters.length()), -1);
    }

    /** Changes the key. */
    void termsAre(TermIndex x, String what, String... sorted) {
        due(what + ", size", x.size(), sorted.length);
        for (int rank = 0; rank < sorted.length; rank++) {
            due(what + ", load(" + rank + ")", x.load(rank), sorted[rank].length());
            keyIs(x, what + ", term " + rank, sorted[rank]);
        }
    }

    /** Looks at the key in every way that there is, then at the held terms. Changes the key. */
    void stateIs(TermIndex x, String what, String letters, String... sorted) {
        List<String> terms = List.of(sorted);
        keyIs(x, what + ", key", letters);
        due(what + ", before", x.before(), Plain.before(terms, letters));
        due(what + ", held", x.held(), terms.contains(letters));
        due(what + ", beginning", x.beginning(), Plain.beginning(terms, letters));
        due(what + ", common", x.common(), Plain.common(terms, letters));
        due(what + ", load(" + sorted.length + ")", x.load(sorted.length), -1);
        for (int place = letters.length() - 1; place >= 0; place--) {
            due(what + ", back at place " + place, x.back(), letters.charAt(place) - '0');
        }
        due(what + ", back at the end", x.back(), -1);
        termsAre(x, what + ", terms", sorted);
    }

    void end() {
        System.out.println(made + " answers looked at, " + wrong + " not as due");
        if (made == 0 || wrong != 0) {
            System.exit(1);
        }
    }
}

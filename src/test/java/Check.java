/** Counts and prints the answers that are not as due; each test ends with end(). */
final class Check {
    // One fault can show in very many answers; the first of them are enough to find it.
    private static final int MOST_PRINTED = 50;

    private final String test;
    private int made = 0;
    private int wrong = 0;

    Check(String test) {
        this.test = test;
    }

    void due(String what, int got, int want) {
        made++;
        if (got != want) {
            wrong++;
            tell(what, got, want);
        }
    }

    private void tell(String what, int got, int want) {
        if (wrong <= MOST_PRINTED) {
            System.out.println(test + ": " + what + " answered " + got + ", due is " + want);
        }
    }

    void due(String what, boolean got, boolean want) {
        due(what, got ? 1 : 0, want ? 1 : 0);
    }

    void end() {
        System.out.println(made + " answers looked at, " + wrong + " not as due");
        if (made == 0 || wrong != 0) {
            System.exit(1);
        }
    }
}

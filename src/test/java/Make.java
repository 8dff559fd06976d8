import java.util.stream.IntStream;

/** Makes objects, keys and arguments for the tests. */
final class Make {
    private Make() {
    }

    static void key(TermIndex x, String letters) {
        x.erase();
        for (int i = 0; i < letters.length(); i++) {
            x.type(letters.charAt(i) - '0');
        }
    }

    /** The key of the object is the last of the terms. */
    static TermIndex holding(String... terms) {
        TermIndex x = new TermIndex();
        for (String term : terms) {
            key(x, term);
            x.insert();
        }
        return x;
    }

    static TermIndex holdingWithKey(String letters, String... terms) {
        TermIndex x = holding(terms);
        key(x, letters);
        return x;
    }

    /** The first terms of 00, 01 and so on, so that a term's rank can be read off it. */
    static String[] twoLetterTerms(int count) {
        return IntStream.range(0, count).mapToObj(Make::twoLetters).toArray(String[]::new);
    }

    static TermIndex filled() {
        return holding(twoLetterTerms(40));
    }

    static String twoLetters(int number) {
        return "" + number / 10 + number % 10;
    }

    /**
     * Numbers that are not from low to high: those beside the range, and those around each power of
     * two, the least and the greatest int among them, where arithmetic wraps around.
     */
    static int[] numbersOutside(int low, int high) {
        return IntStream.range(0, 32).flatMap(Make::around).distinct().filter(n -> n < low || n > high).toArray();
    }

    private static IntStream around(int bit) {
        return IntStream.rangeClosed(-42, 42).flatMap(n -> IntStream.of((1 << bit) + n, -(1 << bit) + n));
    }
}

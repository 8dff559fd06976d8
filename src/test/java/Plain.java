import java.util.List;

/** What is due for a key beside held terms, over strings: their natural order is the order of terms. */
final class Plain {
    private Plain() {
    }

    static int before(List<String> terms, String key) {
        return (int) terms.stream().filter(term -> term.compareTo(key) < 0).count();
    }

    static int beginning(List<String> terms, String key) {
        return (int) terms.stream().filter(term -> term.startsWith(key)).count();
    }

    static int common(List<String> terms, String key) {
        for (int length = key.length(); length >= 0; length--) {
            if (beginning(terms, key.substring(0, length)) > 0) {
                return length;
            }
        }
        return -1;
    }
}

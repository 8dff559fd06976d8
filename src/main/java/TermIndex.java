public final class TermIndex {
    private static final int MOST_TERMS = 40;
    private static final int MOST_LETTERS = 6;
    private static final int GREATEST_LETTER = 9;
    private static final int NONE = -1;

    private static final int BITS_OF_PLACE = 4;
    private static final int MASK_OF_PLACE = 15;

    // A row of letters is packed into one number: four bits to a place, the first
    // place highest, a letter as itself plus 1 and an empty place as 0. An empty
    // place is then below every letter, so numbers are ordered as the terms are.
    private final int[] terms = new int[MOST_TERMS];
    private int termCount;

    private int key;
    private int keyLength;

    public TermIndex() {
        termCount = 0;
        key = 0;
        keyLength = 0;
    }

    public int type(int letter) {
        if (letter < 0 || letter > GREATEST_LETTER || keyLength >= MOST_LETTERS) {
            return NONE;
        }
        keyLength++;
        key |= (letter + 1) << bitsBehind(keyLength);
        return keyLength;
    }

    public int back() {
        if (keyLength == 0) {
            return NONE;
        }
        int last = letterOf(key, keyLength - 1);
        key &= ~(MASK_OF_PLACE << bitsBehind(keyLength));
        keyLength--;
        return last;
    }

    public void erase() {
        key = 0;
        keyLength = 0;
    }

    public int load(int rank) {
        if (rank < 0 || rank >= termCount) {
            return NONE;
        }
        key = terms[rank];
        keyLength = lengthOf(key);
        return keyLength;
    }

    public int letter(int place) {
        if (place < 0 || place >= keyLength) {
            return NONE;
        }
        return letterOf(key, place);
    }

    public int insert() {
        int rank = rankOfKey();
        if (keyLength == 0 || termCount >= MOST_TERMS || isKeyAt(rank)) {
            return NONE;
        }
        for (int i = termCount; i > rank; i--) {
            terms[i] = terms[i - 1];
        }
        terms[rank] = key;
        termCount++;
        return rank;
    }

    public int delete() {
        int rank = rankOfKey();
        if (!isKeyAt(rank)) {
            return NONE;
        }
        termCount--;
        for (int i = rank; i < termCount; i++) {
            terms[i] = terms[i + 1];
        }
        return rank;
    }

    public int size() {
        return termCount;
    }

    public int before() {
        return rankOfKey();
    }

    public boolean held() {
        int rank = rankOfKey();
        return isKeyAt(rank);
    }

    public int beginning() {
        int count = 0;
        for (int i = 0; i < termCount; i++) {
            if (sharesWithKey(terms[i], keyLength)) {
                count++;
            }
        }
        return count;
    }

    public int common() {
        int longest = NONE;
        for (int i = 0; i < termCount; i++) {
            int shared = sharedLength(terms[i]);
            if (shared > longest) {
                longest = shared;
            }
        }
        return longest;
    }

    /** The rank that the key has, or would have if it were held. */
    private int rankOfKey() {
        int rank = 0;
        for (int i = 0; i < termCount; i++) {
            if (terms[i] < key) {
                rank++;
            }
        }
        return rank;
    }

    private boolean isKeyAt(int rank) {
        // Places from termCount on may keep the number of a deleted term.
        return rank < termCount && terms[rank] == key;
    }

    /** How many letters the term and the key have in common from the first on. */
    private int sharedLength(int term) {
        int shared = 0;
        while (shared < keyLength && sharesWithKey(term, shared + 1)) {
            shared++;
        }
        return shared;
    }

    /** Whether the first places of the term, as many as length says, are those of the key. */
    private boolean sharesWithKey(int term, int length) {
        int behind = bitsBehind(length);
        return term >> behind == key >> behind;
    }

    private static int lengthOf(int row) {
        int length = 0;
        while (length < MOST_LETTERS && letterOf(row, length) != NONE) {
            length++;
        }
        return length;
    }

    /** The letter at a place from 0 to MOST_LETTERS less 1; an empty place gives NONE. */
    private static int letterOf(int row, int place) {
        int bits = row >> bitsBehind(place + 1);
        return (bits & MASK_OF_PLACE) - 1;
    }

    /** How many bits of a packed row stand behind its first places, as many as length says. */
    private static int bitsBehind(int length) {
        return BITS_OF_PLACE * (MOST_LETTERS - length);
    }
}

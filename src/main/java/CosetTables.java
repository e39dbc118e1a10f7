/**
 * Two generators with some relators, and the tables, of a few points, in which these hold.
 *
 * <p>Nothing that follows from the relators is kept from call to call: every question searches
 * anew, so that no answer can be left over from relators that have changed since.
 */
public final class CosetTables {
    public static final int BAD_ARG = -1;
    public static final int FULL = -2;
    public static final int NONE = -4;

    private static final int LETTERS = 4;
    private static final int FIRST_GENERATOR = 0;
    private static final int SECOND_GENERATOR = 2;
    private static final int MAX_WORD = 8;
    private static final int MAX_RELATORS = 4;
    private static final int MAX_RELATOR_LETTERS = 32;
    private static final int MAX_POINTS = 5;
    private static final int MAX_IMAGES = 20;
    private static final int MAX_MODULUS = 1000;

    /** With no relators there are 461 tables of 5 points; relators only take some away. */
    private static final int MAX_TABLES = 461;

    /** Points are below 8, so that three bits hold an image, and 20 images fit in a long. */
    private static final int IMAGE_BITS = 3;
    private static final int IMAGE_MASK = 7;

    private final int[] wordLetters = new int[MAX_WORD];
    private int wordLength = 0;

    /** The letters of relator k begin at k * MAX_WORD. */
    private final int[] relatorLetters = new int[MAX_RELATOR_LETTERS];
    private final int[] relatorLengths = new int[MAX_RELATORS];
    private int relatorCount = 0;

    /** The action at hand: the image of point p under a letter stands at p * LETTERS + letter. */
    private final int[] images = new int[MAX_IMAGES];

    /** The tables last searched for, each as the key that keyOfImages makes, the least first. */
    private final long[] tableKeys = new long[MAX_TABLES];
    private int tableCount = 0;

    private final int[] newNumbers = new int[MAX_POINTS];
    private final int[] metPoints = new int[MAX_POINTS];

    private final int[] firstSums = new int[MAX_RELATORS];
    private final int[] secondSums = new int[MAX_RELATORS];

    public CosetTables() {
    }

    public int letter(int letter) {
        if (!isLetter(letter)) {
            return BAD_ARG;
        }
        if (wordLength >= MAX_WORD) {
            return FULL;
        }
        wordLetters[wordLength] = letter;
        wordLength++;
        return wordLength;
    }

    public int clear() {
        int before = wordLength;
        wordLength = 0;
        return before;
    }

    public int invert() {
        // Up to and with the middle: a middle letter is exchanged with itself, and so inverted too.
        for (int i = 0; i < (wordLength + 1) / 2; i++) {
            int j = wordLength - 1 - i;
            int left = inverseLetter(wordLetters[i]);
            int right = inverseLetter(wordLetters[j]);
            wordLetters[i] = right;
            wordLetters[j] = left;
        }
        return wordLength;
    }

    public int relate() {
        if (relatorCount >= MAX_RELATORS) {
            return FULL;
        }
        for (int i = 0; i < wordLength; i++) {
            relatorLetters[relatorCount * MAX_WORD + i] = wordLetters[i];
        }
        relatorLengths[relatorCount] = wordLength;
        relatorCount++;
        return relatorCount;
    }

    public int drop(int k) {
        if (k < 0 || k >= relatorCount) {
            return NONE;
        }
        for (int to = k; to < relatorCount - 1; to++) {
            moveRelatorDownTo(to);
        }
        relatorCount--;
        return relatorCount;
    }

    public int word() {
        int number = 1;
        for (int i = 0; i < wordLength; i++) {
            number = LETTERS * number + wordLetters[i];
        }
        return number;
    }

    public int tables(int n) {
        if (!isPointCount(n)) {
            return BAD_ARG;
        }
        findTables(n);
        return tableCount;
    }

    public int image(int n, int k, int p, int letter) {
        if (!isPointCount(n)) {
            return BAD_ARG;
        }
        if (p < 0 || p >= n || !isLetter(letter)) {
            return BAD_ARG;
        }
        findTables(n);
        if (!isTableNumber(k)) {
            return NONE;
        }
        loadTable(n, k);
        return images[p * LETTERS + letter];
    }

    public int actions(int n) {
        if (!isPointCount(n)) {
            return BAD_ARG;
        }
        int permutations = permutationsOf(n);
        int count = 0;
        for (int first = 0; first < permutations; first++) {
            setGenerator(n, FIRST_GENERATOR, first);
            for (int second = 0; second < permutations; second++) {
                setGenerator(n, SECOND_GENERATOR, second);
                if (relatorsHold(n)) {
                    count++;
                }
            }
        }
        return count;
    }

    public int even(int n) {
        if (!isPointCount(n)) {
            return BAD_ARG;
        }
        findTables(n);
        int count = 0;
        for (int k = 0; k < tableCount; k++) {
            loadTable(n, k);
            if (isAlikeToItselfOnly(n, tableKeys[k])) {
                count++;
            }
        }
        return count;
    }

    public int kinds(int n) {
        if (!isPointCount(n)) {
            return BAD_ARG;
        }
        findTables(n);
        int count = 0;
        for (int k = 0; k < tableCount; k++) {
            loadTable(n, k);
            // Tables that are alike are counted once: at the first of them.
            if (isFirstOfItsKind(n, tableKeys[k])) {
                count++;
            }
        }
        return count;
    }

    public int period(int n, int k) {
        if (!isPointCount(n)) {
            return BAD_ARG;
        }
        findTables(n);
        if (!isTableNumber(k)) {
            return NONE;
        }
        loadTable(n, k);
        int times = 1;
        int at = wordImage(0);
        // A permutation of n points brings each point back after n times at the latest.
        while (at != 0 && times < n) {
            at = wordImage(at);
            times++;
        }
        return times;
    }

    public int fixing(int n) {
        if (!isPointCount(n)) {
            return BAD_ARG;
        }
        findTables(n);
        int count = 0;
        for (int k = 0; k < tableCount; k++) {
            loadTable(n, k);
            if (wordImage(0) == 0) {
                count++;
            }
        }
        return count;
    }

    public int still() {
        for (int n = 1; n <= MAX_POINTS; n++) {
            findTables(n);
            for (int k = 0; k < tableCount; k++) {
                loadTable(n, k);
                if (!wordFixesAll(n)) {
                    return 0;
                }
            }
        }
        return 1;
    }

    public int cyclic(int m) {
        if (m < 1 || m > MAX_MODULUS) {
            return BAD_ARG;
        }
        sumRelators();
        int count = 0;
        for (int x = 0; x < m; x++) {
            for (int y = 0; y < m; y++) {
                if (sumsAreDivided(m, x, y)) {
                    count++;
                }
            }
        }
        return count;
    }

    private boolean isLetter(int letter) {
        return letter >= 0 && letter < LETTERS;
    }

    private boolean isPointCount(int n) {
        return n >= 1 && n <= MAX_POINTS;
    }

    private boolean isTableNumber(int k) {
        return k >= 0 && k < tableCount;
    }

    /** A generator's letter is even and its inverse's is one more, so the lowest bit tells them apart. */
    private int inverseLetter(int letter) {
        return letter ^ 1;
    }

    private void moveRelatorDownTo(int to) {
        int from = to + 1;
        for (int i = 0; i < relatorLengths[from]; i++) {
            relatorLetters[to * MAX_WORD + i] = relatorLetters[from * MAX_WORD + i];
        }
        relatorLengths[to] = relatorLengths[from];
    }

    private int permutationsOf(int n) {
        int product = 1;
        for (int i = 2; i <= n; i++) {
            product *= i;
        }
        return product;
    }

    /**
     * Gives a generator the permutation with this code, and its inverse the inverse one. Codes from
     * 0 to n! - 1 give each permutation once: each digit says with which point, among those up to
     * it, a point is exchanged.
     */
    private void setGenerator(int n, int generator, int code) {
        for (int p = 0; p < n; p++) {
            images[p * LETTERS + generator] = p;
        }
        int rest = code;
        for (int p = n - 1; p > 0; p--) {
            int q = rest % (p + 1);
            rest = rest / (p + 1);
            int kept = images[p * LETTERS + generator];
            images[p * LETTERS + generator] = images[q * LETTERS + generator];
            images[q * LETTERS + generator] = kept;
        }
        for (int p = 0; p < n; p++) {
            int q = images[p * LETTERS + generator];
            images[q * LETTERS + inverseLetter(generator)] = p;
        }
    }

    /** Finds all tables of n points, in their order. */
    private void findTables(int n) {
        tableCount = 0;
        int permutations = permutationsOf(n);
        for (int first = 0; first < permutations; first++) {
            setGenerator(n, FIRST_GENERATOR, first);
            for (int second = 0; second < permutations; second++) {
                setGenerator(n, SECOND_GENERATOR, second);
                if (isNumberedAsMet(n) && relatorsHold(n)) {
                    long key = keyOfImages(n);
                    keepTable(key);
                }
            }
        }
    }

    /** Whether the action at hand is connected and its points are numbered as they are met. */
    private boolean isNumberedAsMet(int n) {
        int met = 1;
        for (int p = 0; p < n; p++) {
            if (p >= met) {
                return false;
            }
            for (int letter = 0; letter < LETTERS; letter++) {
                int q = images[p * LETTERS + letter];
                if (q > met) {
                    return false;
                }
                if (q == met) {
                    met++;
                }
            }
        }
        return true;
    }

    private boolean relatorsHold(int n) {
        for (int k = 0; k < relatorCount; k++) {
            for (int p = 0; p < n; p++) {
                if (walk(relatorLetters, k * MAX_WORD, relatorLengths[k], p) != p) {
                    return false;
                }
            }
        }
        return true;
    }

    private boolean wordFixesAll(int n) {
        for (int p = 0; p < n; p++) {
            if (wordImage(p) != p) {
                return false;
            }
        }
        return true;
    }

    private int wordImage(int point) {
        return walk(wordLetters, 0, wordLength, point);
    }

    /** Where the letters from this start on lead, from a point, in the action at hand. */
    private int walk(int[] letters, int start, int length, int point) {
        int at = point;
        for (int i = 0; i < length; i++) {
            at = images[at * LETTERS + letters[start + i]];
        }
        return at;
    }

    /** The row of all images as one number: keys of the same n are ordered as the tables are. */
    private long keyOfImages(int n) {
        long key = 0;
        for (int i = 0; i < n * LETTERS; i++) {
            key = (key << IMAGE_BITS) + images[i];
        }
        return key;
    }

    private void keepTable(long key) {
        if (tableCount >= MAX_TABLES) {
            return;
        }
        int place = tableCount;
        while (place > 0 && tableKeys[place - 1] > key) {
            tableKeys[place] = tableKeys[place - 1];
            place--;
        }
        tableKeys[place] = key;
        tableCount++;
    }

    /** Makes table k of those last found the action at hand. */
    private void loadTable(int n, int k) {
        long rest = tableKeys[k];
        for (int i = n * LETTERS - 1; i >= 0; i--) {
            images[i] = (int) (rest & IMAGE_MASK);
            rest = rest >> IMAGE_BITS;
        }
    }

    private boolean isAlikeToItselfOnly(int n, long key) {
        for (int start = 1; start < n; start++) {
            if (keyFrom(n, start) != key) {
                return false;
            }
        }
        return true;
    }

    private boolean isFirstOfItsKind(int n, long key) {
        for (int start = 1; start < n; start++) {
            if (keyFrom(n, start) < key) {
                return false;
            }
        }
        return true;
    }

    /** The key of the table at hand once its points are numbered anew, with this one as the first. */
    private long keyFrom(int n, int start) {
        for (int p = 0; p < n; p++) {
            newNumbers[p] = NONE;
        }
        newNumbers[start] = 0;
        metPoints[0] = start;
        int met = 1;
        long key = 0;
        for (int i = 0; i < n; i++) {
            for (int letter = 0; letter < LETTERS; letter++) {
                int q = images[metPoints[i] * LETTERS + letter];
                if (newNumbers[q] == NONE) {
                    newNumbers[q] = met;
                    metPoints[met] = q;
                    met++;
                }
                key = (key << IMAGE_BITS) + newNumbers[q];
            }
        }
        return key;
    }

    /** For each relator, how often it has each generator less how often that one's inverse. */
    private void sumRelators() {
        for (int k = 0; k < relatorCount; k++) {
            firstSums[k] = surplus(k, FIRST_GENERATOR);
            secondSums[k] = surplus(k, SECOND_GENERATOR);
        }
    }

    private int surplus(int k, int generator) {
        int sum = 0;
        for (int i = 0; i < relatorLengths[k]; i++) {
            int letter = relatorLetters[k * MAX_WORD + i];
            if (letter == generator) {
                sum++;
            }
            if (letter == inverseLetter(generator)) {
                sum--;
            }
        }
        return sum;
    }

    private boolean sumsAreDivided(int m, int x, int y) {
        for (int k = 0; k < relatorCount; k++) {
            if ((x * firstSums[k] + y * secondSums[k]) % m != 0) {
                return false;
            }
        }
        return true;
    }
}

import java.util.ArrayList;
import java.util.Arrays;
import java.util.HashSet;
import java.util.List;
import java.util.Set;

/**
 * The document once more, by other ways than the program's: tables are grown image by image, actions
 * are counted from tables, kinds are sets of alike tables, cyclic is counted from divisors.
 */
final class Model {
    private static final int BAD_ARG = -1;
    private static final int FULL = -2;
    private static final int NONE = -4;

    private String word = "";
    private final List<String> relators = new ArrayList<>();

    int letter(int letter) {
        if (letter < 0 || letter > 3) {
            return BAD_ARG;
        }
        if (word.length() == 8) {
            return FULL;
        }
        word += letter;
        return word.length();
    }

    int clear() {
        int before = word.length();
        word = "";
        return before;
    }

    int invert() {
        StringBuilder inverse = new StringBuilder();
        for (char c : word.toCharArray()) {
            inverse.insert(0, "1032".charAt(c - '0'));
        }
        word = inverse.toString();
        return word.length();
    }

    int relate() {
        if (relators.size() == 4) {
            return FULL;
        }
        relators.add(word);
        return relators.size();
    }

    int drop(int k) {
        if (k < 0 || k >= relators.size()) {
            return NONE;
        }
        relators.remove(k);
        return relators.size();
    }

    int word() {
        return Integer.parseInt("1" + word, 4);
    }

    int tables(int n) {
        return bad(n) ? BAD_ARG : all(n).size();
    }

    int image(int n, int k, int p, int letter) {
        if (bad(n) || p < 0 || p >= n || letter < 0 || letter > 3) {
            return BAD_ARG;
        }
        List<String> rows = all(n);
        return k < 0 || k >= rows.size() ? NONE : rows.get(k).charAt(4 * p + letter) - '0';
    }

    /** Point 0 lies in a part of some size: choose its other points, their order, and the rest's action. */
    int actions(int n) {
        if (bad(n)) {
            return BAD_ARG;
        }
        int[] counts = new int[n + 1];
        counts[0] = 1;
        for (int points = 1; points <= n; points++) {
            int arrangements = 1;
            for (int size = 1; size <= points; size++) {
                counts[points] += arrangements * all(size).size() * counts[points - size];
                arrangements *= points - size;
            }
        }
        return counts[n];
    }

    int even(int n) {
        if (bad(n)) {
            return BAD_ARG;
        }
        int count = 0;
        for (String row : all(n)) {
            count += alike(n, row).size() == 1 ? 1 : 0;
        }
        return count;
    }

    int kinds(int n) {
        if (bad(n)) {
            return BAD_ARG;
        }
        Set<Set<String>> kinds = new HashSet<>();
        for (String row : all(n)) {
            kinds.add(alike(n, row));
        }
        return kinds.size();
    }

    int period(int n, int k) {
        if (bad(n)) {
            return BAD_ARG;
        }
        List<String> rows = all(n);
        if (k < 0 || k >= rows.size()) {
            return NONE;
        }
        String repeated = word;
        int times = 1;
        while (go(rows.get(k), repeated, 0) != 0) {
            repeated += word;
            times++;
        }
        return times;
    }

    int fixing(int n) {
        if (bad(n)) {
            return BAD_ARG;
        }
        int count = 0;
        for (String row : all(n)) {
            count += go(row, word, 0) == 0 ? 1 : 0;
        }
        return count;
    }

    int still() {
        for (int n = 1; n <= 5; n++) {
            for (String row : all(n)) {
                if (!rests(row, n, word)) {
                    return 0;
                }
            }
        }
        return 1;
    }

    /** The solutions are as many as gcd(d, m) gcd(e, m), with d, e the relators' elementary divisors. */
    int cyclic(int m) {
        if (m < 1 || m > 1000) {
            return BAD_ARG;
        }
        int entries = 0;
        int minors = 0;
        for (String r : relators) {
            entries = gcd(gcd(entries, sum(r, '0', '1')), sum(r, '2', '3'));
            for (String s : relators) {
                int minor = sum(r, '0', '1') * sum(s, '2', '3') - sum(s, '0', '1') * sum(r, '2', '3');
                minors = gcd(minors, minor);
            }
        }
        return gcd(entries, m) * gcd(entries == 0 ? 0 : minors / entries, m);
    }

    private static boolean bad(int n) {
        return n < 1 || n > 5;
    }

    private static int gcd(int a, int b) {
        return b == 0 ? Math.abs(a) : gcd(b, a % b);
    }

    private static int sum(String relator, char plus, char minus) {
        int sum = 0;
        for (char c : relator.toCharArray()) {
            sum += c == plus ? 1 : c == minus ? -1 : 0;
        }
        return sum;
    }

    private static int go(String row, String letters, int point) {
        int at = point;
        for (char c : letters.toCharArray()) {
            at = row.charAt(4 * at + c - '0') - '0';
        }
        return at;
    }

    private static boolean rests(String row, int n, String letters) {
        for (int p = 0; p < n; p++) {
            if (go(row, letters, p) != p) {
                return false;
            }
        }
        return true;
    }

    /** The tables of n points as their rows, a digit an image, in their order. */
    List<String> all(int n) {
        List<String> rows = new ArrayList<>();
        int[] row = new int[4 * n];
        Arrays.fill(row, -1);
        grow(n, row, 0, 1, rows);
        return rows;
    }

    /** Fills the row from a cell on, the lesser images first: so the rows come in their order. */
    private void grow(int n, int[] row, int cell, int met, List<String> rows) {
        if (cell == 4 * n) {
            StringBuilder text = new StringBuilder();
            for (int q : row) {
                text.append(q);
            }
            if (relators.stream().allMatch(r -> rests(text.toString(), n, r))) {
                rows.add(text.toString());
            }
            return;
        }
        int p = cell / 4;
        if (p >= met) {
            return;
        }
        if (row[cell] >= 0) {
            grow(n, row, cell + 1, met, rows);
            return;
        }
        for (int q = 0; q <= met && q < n; q++) {
            int back = 4 * q + "1032".charAt(cell % 4) - '0';
            if (row[back] < 0) {
                row[cell] = q;
                row[back] = p;
                grow(n, row, cell + 1, q == met ? met + 1 : met, rows);
                row[cell] = -1;
                row[back] = -1;
            }
        }
    }

    /** The tables that a table gives, from whatever point. */
    private static Set<String> alike(int n, String row) {
        Set<String> found = new HashSet<>();
        for (int start = 0; start < n; start++) {
            List<Integer> order = new ArrayList<>(List.of(start));
            StringBuilder text = new StringBuilder();
            for (int i = 0; i < order.size(); i++) {
                for (int letter = 0; letter < 4; letter++) {
                    int q = row.charAt(4 * order.get(i) + letter) - '0';
                    if (!order.contains(q)) {
                        order.add(q);
                    }
                    text.append(order.indexOf(q));
                }
            }
            found.add(text.toString());
        }
        return found;
    }
}

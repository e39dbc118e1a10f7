import java.util.List;

/**
 * Long runs of mixed calls, good and bad, with every answer compared with the model's. The calls come
 * of a fixed row of numbers, so that every run of the test is the same.
 */
public final class ModelTest {
    private static final int RUNS = 120;
    private static final int CALLS = 512;
    private static final int[] ODD_NUMBERS = {-1, -2, 4, 5, 6, 9, 461, 1001, Integer.MIN_VALUE, Integer.MAX_VALUE};

    private static long state = 20261115;

    public static void main(String[] args) {
        for (int run = 0; run < RUNS; run++) {
            compareRun(run);
        }
        compareAllImages();
        Due.end();
    }

    private static int below(int bound) {
        state = state * 6364136223846793005L + 1442695040888963407L;
        return (int) ((state >>> 33) % bound);
    }

    /** Mostly from least to greatest, now and then far out. */
    private static int about(int least, int greatest) {
        if (below(16) == 0) {
            return ODD_NUMBERS[below(ODD_NUMBERS.length)];
        }
        return least + below(greatest - least + 1);
    }

    private static void compareRun(int run) {
        CosetTables x = new CosetTables();
        Model y = new Model();
        for (int call = 0; call < CALLS; call++) {
            if (below(3) > 0) {
                change(x, y, "run " + run + ", call " + call + ": ");
            } else {
                ask(x, y, "run " + run + ", call " + call + ": ");
            }
        }
    }

    private static void change(CosetTables x, Model y, String at) {
        int a = about(0, 3);
        switch (below(16)) {
            case 0:
                Due.same(at + "clear()", x.clear(), y.clear());
                break;
            case 1:
                Due.same(at + "invert()", x.invert(), y.invert());
                break;
            case 2:
            case 3:
                Due.same(at + "relate()", x.relate(), y.relate());
                break;
            case 4:
            case 5:
            case 6:
                Due.same(at + "drop(" + a + ")", x.drop(a), y.drop(a));
                break;
            case 7:
                Due.same(at + "word()", x.word(), y.word());
                break;
            default:
                Due.same(at + "letter(" + a + ")", x.letter(a), y.letter(a));
                break;
        }
    }

    private static void ask(CosetTables x, Model y, String at) {
        int n = about(1, 5);
        int k = about(0, below(3) == 0 ? 70 : 4);
        int p = about(0, 4);
        int letter = about(0, 3);
        int m = about(1, below(4) == 0 ? 1000 : 24);
        switch (below(9)) {
            case 0:
                Due.same(at + "tables(" + n + ")", x.tables(n), y.tables(n));
                break;
            case 1:
                String call = "image(" + n + ", " + k + ", " + p + ", " + letter + ")";
                Due.same(at + call, x.image(n, k, p, letter), y.image(n, k, p, letter));
                break;
            case 2:
                Due.same(at + "actions(" + n + ")", x.actions(n), y.actions(n));
                break;
            case 3:
                Due.same(at + "even(" + n + ")", x.even(n), y.even(n));
                break;
            case 4:
                Due.same(at + "kinds(" + n + ")", x.kinds(n), y.kinds(n));
                break;
            case 5:
                Due.same(at + "period(" + n + ", " + k + ")", x.period(n, k), y.period(n, k));
                break;
            case 6:
                Due.same(at + "fixing(" + n + ")", x.fixing(n), y.fixing(n));
                break;
            case 7:
                Due.same(at + "still()", x.still(), y.still());
                break;
            default:
                Due.same(at + "cyclic(" + m + ")", x.cyclic(m), y.cyclic(m));
                break;
        }
    }

    /** Every image of every table without relators, each table on an object of its own. */
    private static void compareAllImages() {
        for (int n = 1; n <= 5; n++) {
            List<String> rows = new Model().all(n);
            for (int k = 0; k < rows.size(); k++) {
                CosetTables x = new CosetTables();
                for (int i = 0; i < 4 * n; i++) {
                    String call = "image(" + n + ", " + k + ", " + i / 4 + ", " + i % 4 + ")";
                    Due.same(call, x.image(n, k, i / 4, i % 4), rows.get(k).charAt(i) - '0');
                }
            }
        }
    }
}

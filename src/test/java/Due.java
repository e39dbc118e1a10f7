/** Compares answers with those that are due, prints the wrong ones, and ends the test. */
final class Due {
    private static int wrong = 0;
    private static int looked = 0;
    private static String sentence = "";
    private static int lookedBefore = 0;

    private Due() {
    }

    /** Runs each test by itself: one that throws is wrong, and does not keep the next ones from running. */
    static void each(Runnable... tests) {
        for (Runnable test : tests) {
            try {
                test.run();
            } catch (RuntimeException | Error thrown) {
                wrong("threw " + thrown);
            }
        }
    }

    /** What is looked at from here on stands for this sentence of the document. */
    static void sentence(String words) {
        endSentence();
        sentence = words;
        lookedBefore = looked;
    }

    /** A sentence for which nothing was looked at has not been tested. */
    private static void endSentence() {
        if (!sentence.isEmpty() && looked == lookedBefore) {
            wrong("nothing was looked at");
        }
    }

    static void same(String what, long got, long want) {
        looked++;
        if (got != want) {
            wrong(what + " answered " + got + ", due is " + want);
        }
    }

    static void holds(String what, boolean held) {
        looked++;
        if (!held) {
            wrong("does not hold: " + what);
        }
    }

    /** How many tables there are, of 1 point first. */
    static void tables(String what, CosetTables x, int... want) {
        for (int n = 1; n <= 5; n++) {
            same(what + ": tables(" + n + ")", x.tables(n), want[n - 1]);
        }
    }

    /** All images of a table, a digit an image, in the order of the document. */
    static void table(String what, CosetTables x, int n, int k, String row) {
        for (int i = 0; i < 4 * n; i++) {
            String call = what + ": image(" + n + ", " + k + ", " + i / 4 + ", " + i % 4 + ")";
            same(call, x.image(n, k, i / 4, i % 4), row.charAt(i) - '0');
        }
    }

    private static void wrong(String what) {
        wrong++;
        System.out.println(sentence.isEmpty() ? what : "[" + sentence + "] " + what);
    }

    /** A test that looked at nothing has not passed. */
    static void end() {
        endSentence();
        System.out.println(looked + " looked at, " + wrong + " wrong");
        if (wrong != 0 || looked == 0) {
            System.exit(1);
        }
    }
}

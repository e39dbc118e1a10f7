/** Compares answers with those that are due, prints the wrong ones, and ends the test. */
final class Due {
    private static int wrong = 0;
    private static int looked = 0;

    private Due() {
    }

    static void same(String what, long got, long want) {
        looked++;
        if (got != want) {
            wrong++;
            System.out.println(what + " answered " + got + ", due is " + want);
        }
    }

    static void holds(String what, boolean held) {
        looked++;
        if (!held) {
            wrong++;
            System.out.println("does not hold: " + what);
        }
    }

    /** A test that looked at nothing has not passed. */
    static void end() {
        System.out.println(looked + " looked at, " + wrong + " wrong");
        if (wrong != 0 || looked == 0) {
            System.exit(1);
        }
    }
}

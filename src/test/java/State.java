/**
 * Words and relators in which a call is refused, and what shows that they are still as they were made.
 * That they stand is looked at by taking the relators away one by one, so the object is used up.
 */
enum State {
    /** The empty word and no relators. */
    NEW(0, 1, 3, 13, 71, 461) {
        @Override
        CosetTables make() {
            return new CosetTables();
        }

        @Override
        void stands(String what, CosetTables x) {
            Due.same(what + ": word() of a new one", x.word(), 1);
            Due.same(what + ": tables(5) of a new one", x.tables(5), 461);
            Due.same(what + ": drop(0) of a new one", x.drop(0), CosetTables.NONE);
            Due.same(what + ": clear() of a new one", x.clear(), 0);
            Due.same(what + ": relate() of a new one", x.relate(), 1);
        }
    },

    /** Two letters and two relators. */
    HALF(2, 1, 0, 1, 0, 0) {
        @Override
        CosetTables make() {
            CosetTables x = Words.with("02133", "000");
            Words.put(x, "02");
            return x;
        }

        /**
         * The relators give the group of 21 elements; the first one alone says that b turns into bb
         * under a, so that on a ring of 5 points on which b goes on by 1, a is three times the place.
         */
        @Override
        void stands(String what, CosetTables x) {
            Due.same(what + ": word() of two letters", x.word(), Words.number("02"));
            Due.tables(what + ": abABB, aaa", x, 1, 0, 1, 0, 0);
            Due.same(what + ": drop(2) of two", x.drop(2), CosetTables.NONE);
            Due.same(what + ": drop(1) of two", x.drop(1), 1);
            Due.tables(what + ": abABB", x, 1, 1, 4, 1, 6);
            Due.table(what + ": abABB", x, 5, 0, "0012" + "3440" + "4303" + "2124" + "1231");
            Due.same(what + ": drop(0) of one", x.drop(0), 0);
            Due.same(what + ": tables(5) with none", x.tables(5), 461);
            Due.same(what + ": clear() of two letters", x.clear(), 2);
        }
    },

    /** Eight letters and four relators, of 4, 5, 6 and 8 letters; they leave aa and b at rest. */
    FULL(4, 1, 1, 0, 0, 0) {
        @Override
        CosetTables make() {
            CosetTables x = Words.with("0000", "22222", "000000", "22222222");
            Words.put(x, "01230123");
            return x;
        }

        /** Each choice among these relators has a number of its own in cyclic(120). */
        @Override
        void stands(String what, CosetTables x) {
            Due.same(what + ": word() of eight letters", x.word(), Words.number("01230123"));
            Due.same(what + ": cyclic(120) with a4, b5, a6, b8", x.cyclic(120), 2);
            Due.same(what + ": drop(0) of four", x.drop(0), 3);
            Due.same(what + ": cyclic(120) with b5, a6, b8", x.cyclic(120), 6);
            Due.same(what + ": drop(0) of three", x.drop(0), 2);
            Due.same(what + ": cyclic(120) with a6, b8", x.cyclic(120), 6 * 8);
            Due.same(what + ": drop(0) of two", x.drop(0), 1);
            Due.same(what + ": cyclic(120) with b8", x.cyclic(120), 120 * 8);
            Due.same(what + ": drop(0) of one", x.drop(0), 0);
            Due.same(what + ": cyclic(120) with none", x.cyclic(120), 120 * 120);
            Due.same(what + ": clear() of eight letters", x.clear(), 8);
        }
    },

    /** The empty word, which is each of the four relators too. */
    EMPTIES(4, 1, 3, 13, 71, 461) {
        @Override
        CosetTables make() {
            return Words.with("", "", "", "");
        }

        @Override
        void stands(String what, CosetTables x) {
            Due.same(what + ": word() of no letters", x.word(), 1);
            Due.tables(what + ": four empty relators", x, 1, 3, 13, 71, 461);
            Due.same(what + ": cyclic(12) with four empty relators", x.cyclic(12), 144);
            for (int left = 3; left >= 0; left--) {
                Due.same(what + ": drop(0) of an empty relator", x.drop(0), left);
            }
            Due.same(what + ": clear() of no letters", x.clear(), 0);
        }
    };

    /** How many relators there are. */
    final int relators;

    private final int[] tables;

    State(int relators, int... tables) {
        this.relators = relators;
        this.tables = tables;
    }

    /** How many tables of n points there are. */
    int tables(int n) {
        return tables[n - 1];
    }

    abstract CosetTables make();

    abstract void stands(String what, CosetTables x);
}

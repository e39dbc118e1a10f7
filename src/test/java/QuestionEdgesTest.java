/** The boundary cases that promises 8 to 16 name, on the questions: one method a sentence. */
public final class QuestionEdgesTest {
    private static final int BAD_ARG = -1;
    private static final int NONE = -4;

    /** Without relators: how many tables of 1 to 5 points there are. */
    private static final int[] ALL = {1, 3, 13, 71, 461};

    public static void main(String[] args) {
        Due.each(
                QuestionEdgesTest::tablesOfOnePoint,
                QuestionEdgesTest::tablesOfFivePoints,
                QuestionEdgesTest::tablesAreNone,
                QuestionEdgesTest::tablesWithTheEmptyRelator,
                QuestionEdgesTest::emptyRelatorInEveryQuestion,
                QuestionEdgesTest::relatorHoldsAtEveryPoint,
                QuestionEdgesTest::relatorGoesFromItsFirstLetterOn,
                QuestionEdgesTest::imageOfFirstAndLastTable,
                QuestionEdgesTest::imageOfEveryPoint,
                QuestionEdgesTest::imagePointOutOfRange,
                QuestionEdgesTest::imageLetterOutOfRange,
                QuestionEdgesTest::imageTableOutOfRange,
                QuestionEdgesTest::imageBadArgBeforeNone,
                QuestionEdgesTest::imageWithoutTables,
                QuestionEdgesTest::imageIsOrdered,
                QuestionEdgesTest::actionsOfOnePoint,
                QuestionEdgesTest::actionsOfFivePoints,
                QuestionEdgesTest::actionsNeedNotBeConnected,
                QuestionEdgesTest::evenOfOnePoint,
                QuestionEdgesTest::evenOfTwoPoints,
                QuestionEdgesTest::evenIsNone,
                QuestionEdgesTest::kindsOfOnePoint,
                QuestionEdgesTest::kindsOfTwoPoints,
                QuestionEdgesTest::kindsAreNone,
                QuestionEdgesTest::periodIsAboveZero,
                QuestionEdgesTest::periodIsTheLeast,
                QuestionEdgesTest::periodIsAtMostThePoints,
                QuestionEdgesTest::periodOfAFullWord,
                QuestionEdgesTest::periodOfPointZero,
                QuestionEdgesTest::periodInFirstAndLastTable,
                QuestionEdgesTest::periodTableOutOfRange,
                QuestionEdgesTest::periodWithoutTables,
                QuestionEdgesTest::fixingOfTheEmptyWord,
                QuestionEdgesTest::fixingOfAFullWord,
                QuestionEdgesTest::fixingIsNone,
                QuestionEdgesTest::stillOfTheEmptyWord,
                QuestionEdgesTest::stillOfAFullWord,
                QuestionEdgesTest::stillSeesTablesOfUpToFive,
                QuestionEdgesTest::stillSeesNoMorePoints,
                QuestionEdgesTest::stillWithOneTable,
                QuestionEdgesTest::cyclicOfOne,
                QuestionEdgesTest::cyclicOfAThousand,
                QuestionEdgesTest::cyclicOutOfRange,
                QuestionEdgesTest::cyclicWithoutRelators,
                QuestionEdgesTest::cyclicWithTheEmptyRelator,
                QuestionEdgesTest::cyclicFromZeroToLast,
                QuestionEdgesTest::cyclicWithSumsOfZeroOrLess,
                QuestionEdgesTest::cyclicForEveryRelator);
        Due.end();
    }

    private static CosetTables withWord(String word, String... relators) {
        CosetTables x = Words.with(relators);
        Words.put(x, word);
        return x;
    }

    private static void tablesOfOnePoint() {
        Due.sentence("Promise 8: of 1 point there is one table, whatever the relators");
        for (State state : State.values()) {
            Due.same(state + ": tables(1)", state.make().tables(1), 1);
        }
        Due.same("a, b: tables(1)", Words.with("0", "2").tables(1), 1);
        Due.same("abAB, a, B, A8: tables(1)", Words.with("0213", "0", "3", "11111111").tables(1), 1);
    }

    private static void tablesOfFivePoints() {
        Due.sentence("Promise 8: of 5 points, with no relator and with one");
        Due.same("tables(5)", new CosetTables().tables(5), 461);
        Due.same("aa: tables(5)", Words.with("00").tables(5), 71);
        Due.same("b: tables(5)", Words.with("2").tables(5), 1);
    }

    private static void tablesAreNone() {
        Due.sentence("Promise 8: there may be none");
        CosetTables x = Words.with("0", "2");
        Due.tables("a, b", x, 1, 0, 0, 0, 0);
        Due.tables("a, b after all were seen", x, 1, 0, 0, 0, 0);
    }

    private static void tablesWithTheEmptyRelator() {
        Due.sentence("Promise 8: the empty relator takes every point to itself");
        Due.tables("empty", Words.with(""), ALL);
        Due.tables("aA", Words.with("01"), ALL);
        Due.tables("b, empty", Words.with("2", ""), 1, 1, 1, 1, 1);
        Due.tables("empty, b", Words.with("", "2"), 1, 1, 1, 1, 1);
    }

    /** Known of the group with no relators: its subgroups of index 5, the normal ones, and their classes. */
    private static void emptyRelatorInEveryQuestion() {
        Due.sentence("Terms: relators may be none, or the empty word: every question answers the same");
        CosetTables[] objects = {new CosetTables(), Words.with(""), Words.with("", "", "", "")};
        for (CosetTables x : objects) {
            Due.tables("free", x, ALL);
            Due.table("least of 5", x, 5, 0, "0011" + "2200" + "1133" + "4422" + "3344");
            Due.table("greatest of 5", x, 5, 460, "1234" + "4043" + "0422" + "3310" + "2101");
            Due.same("actions(4)", x.actions(4), 24 * 24);
            Due.same("even(5)", x.even(5), 6);
            Due.same("kinds(5)", x.kinds(5), 97);
            Due.same("cyclic(1000)", x.cyclic(1000), 1000 * 1000);
            Due.same("still() of the empty word", x.still(), 1);
            Words.put(x, "02");
            Due.same("period(5, 460) of ab", x.period(5, 460), 5);
            // Of 2 points ab rests where a and b both change the points, and there alone.
            Due.same("fixing(2) of ab", x.fixing(2), 1);
            Due.same("still() of ab", x.still(), 0);
        }
    }

    /** In the table 0011, 2200, 1122 a rests at point 0 alone: it is none where a is a relator. */
    private static void relatorHoldsAtEveryPoint() {
        Due.sentence("Terms: every relator takes every point to itself");
        Due.table("free", new CosetTables(), 3, 0, "0011" + "2200" + "1122");
        CosetTables x = Words.with("0");
        Due.same("a: tables(3)", x.tables(3), 1);
        Due.table("a", x, 3, 0, "0012" + "1120" + "2201");
        Due.same("a: actions(3)", x.actions(3), 6);
    }

    /**
     * Where a b A is b b, and b goes on by 1 on a ring of 5 points, a is three times the place; were
     * the letters taken from the last one on, it would be two times the place.
     */
    private static void relatorGoesFromItsFirstLetterOn() {
        Due.sentence("Terms: to the image under the first letter, from there under the second");
        CosetTables x = Words.with("02133");
        Due.same("abABB: tables(5)", x.tables(5), 6);
        Due.table("abABB", x, 5, 0, "0012" + "3440" + "4303" + "2124" + "1231");
        // The word goes the same way: the relator rests in all six, turned round it goes on by 1 in five.
        Words.put(x, "02133");
        Due.same("abABB: fixing(5)", x.fixing(5), 6);
        Due.same("abABB: period(5, 0)", x.period(5, 0), 1);
        Due.same("abABB: still()", x.still(), 1);
        Words.put(x, "33120");
        Due.same("BBAba: fixing(5)", x.fixing(5), 1);
        Due.same("BBAba: period(5, 0)", x.period(5, 0), 5);
        Due.same("BBAba: still()", x.still(), 0);
    }

    private static void imageOfFirstAndLastTable() {
        Due.sentence("Promise 9: the table with none before it, and the last one");
        CosetTables x = new CosetTables();
        Due.table("least of 5", x, 5, 0, "0011" + "2200" + "1133" + "4422" + "3344");
        Due.table("greatest of 5", x, 5, 460, "1234" + "4043" + "0422" + "3310" + "2101");
        Due.same("behind the greatest", x.image(5, 461, 0, 0), NONE);
        Due.table("only one of 1", x, 1, 0, "0000");
        Due.same("behind the only one of 1", x.image(1, 1, 0, 0), NONE);
        Due.table("least of 2", x, 2, 0, "0011" + "1100");
        Due.table("greatest of 2", x, 2, 2, "1111" + "0000");
        Due.same("behind the greatest of 2", x.image(2, 3, 0, 0), NONE);
    }

    /** Where b is a relator there is one table: point 0 leads to 1 and from 2, and so on round the ring. */
    private static void imageOfEveryPoint() {
        Due.sentence("Promise 9: points 0 to n - 1 and letters 0 to 3");
        CosetTables x = Words.with("2");
        Due.table("b", x, 1, 0, "0000");
        Due.table("b", x, 2, 0, "1100" + "0011");
        Due.table("b", x, 3, 0, "1200" + "2011" + "0122");
        Due.table("b", x, 4, 0, "1200" + "3011" + "0322" + "2133");
        Due.table("b", x, 5, 0, "1200" + "3011" + "0422" + "4133" + "2344");
    }

    private static void imagePointOutOfRange() {
        Due.sentence("Promise 9: p not 0 to n - 1 answers BAD_ARG");
        for (int n = 1; n <= 5; n++) {
            for (int p : Outside.of(0, n - 1)) {
                CosetTables x = new CosetTables();
                Due.same("image(" + n + ", 0, " + p + ", 0)", x.image(n, 0, p, 0), BAD_ARG);
                Due.same("image(" + n + ", 0, " + p + ", 3)", x.image(n, 0, p, 3), BAD_ARG);
            }
        }
    }

    private static void imageLetterOutOfRange() {
        Due.sentence("Promise 9: letter not 0 to 3 answers BAD_ARG");
        for (int n = 1; n <= 5; n++) {
            for (int letter : Outside.of(0, 3)) {
                CosetTables x = new CosetTables();
                Due.same("image(" + n + ", 0, 0, " + letter + ")", x.image(n, 0, 0, letter), BAD_ARG);
                int p = n - 1;
                Due.same("image(" + n + ", 0, " + p + ", " + letter + ")", x.image(n, 0, p, letter), BAD_ARG);
            }
        }
    }

    private static void imageTableOutOfRange() {
        Due.sentence("Promise 9: there is no such table answers NONE");
        for (int n = 1; n <= 5; n++) {
            for (int k : Outside.of(0, ALL[n - 1] - 1)) {
                CosetTables x = new CosetTables();
                Due.same("image(" + n + ", " + k + ", 0, 0)", x.image(n, k, 0, 0), NONE);
                int p = n - 1;
                Due.same("image(" + n + ", " + k + ", " + p + ", 3)", x.image(n, k, p, 3), NONE);
            }
        }
        CosetTables x = Words.with("2");
        Due.same("b: image(5, 0, 4, 3)", x.image(5, 0, 4, 3), 4);
        Due.same("b: image(5, 1, 4, 3)", x.image(5, 1, 4, 3), NONE);
    }

    private static void imageBadArgBeforeNone() {
        Due.sentence("Promise 9: BAD_ARG is tested before NONE");
        int[] noTables = {-1, 3, Integer.MIN_VALUE, Integer.MAX_VALUE};
        for (int k : noTables) {
            CosetTables x = new CosetTables();
            for (int p : Outside.of(0, 1)) {
                Due.same("image(2, " + k + ", " + p + ", 0)", x.image(2, k, p, 0), BAD_ARG);
            }
            for (int letter : Outside.of(0, 3)) {
                Due.same("image(2, " + k + ", 1, " + letter + ")", x.image(2, k, 1, letter), BAD_ARG);
            }
        }
    }

    private static void imageWithoutTables() {
        Due.sentence("Promise 9: no table of n points at all");
        CosetTables x = Words.with("0", "2");
        for (int n = 2; n <= 5; n++) {
            Due.same("a, b: image(" + n + ", 0, 0, 0)", x.image(n, 0, 0, 0), NONE);
            Due.same("a, b: image(" + n + ", 0, " + n + ", 0)", x.image(n, 0, n, 0), BAD_ARG);
            Due.same("a, b: image(" + n + ", 0, 0, 4)", x.image(n, 0, 0, 4), BAD_ARG);
        }
        Due.same("a, b: image(1, 0, 0, 3)", x.image(1, 0, 0, 3), 0);
    }

    private static String row(int n, int k) {
        CosetTables x = new CosetTables();
        StringBuilder row = new StringBuilder();
        for (int i = 0; i < 4 * n; i++) {
            row.append(x.image(n, k, i / 4, i % 4));
        }
        return row.toString();
    }

    private static void imageIsOrdered() {
        Due.sentence("Terms: the first image that differs decides, the lesser one first");
        for (int n = 2; n <= 4; n++) {
            for (int k = 1; k < ALL[n - 1]; k++) {
                Due.holds("table " + k + " of " + n + " is behind the one before it",
                        row(n, k - 1).compareTo(row(n, k)) < 0);
            }
        }
    }

    private static void actionsOfOnePoint() {
        Due.sentence("Promise 10: on 1 point there is one action, whatever the relators");
        for (State state : State.values()) {
            Due.same(state + ": actions(1)", state.make().actions(1), 1);
        }
        Due.same("a, b: actions(1)", Words.with("0", "2").actions(1), 1);
    }

    private static void actionsOfFivePoints() {
        Due.sentence("Promise 10: on 5 points");
        Due.same("actions(5)", new CosetTables().actions(5), 120 * 120);
        Due.same("empty: actions(5)", Words.with("").actions(5), 120 * 120);
        Due.same("b: actions(5)", Words.with("2").actions(5), 120);
    }

    private static void actionsNeedNotBeConnected() {
        Due.sentence("Promise 10: where no table is, all points resting is an action");
        CosetTables x = Words.with("0", "2");
        for (int n = 1; n <= 5; n++) {
            Due.same("a, b: actions(" + n + ")", x.actions(n), 1);
        }
        x = Words.with("00", "2");
        Due.same("aa, b: tables(3)", x.tables(3), 0);
        Due.same("aa, b: actions(3)", x.actions(3), 4);
    }

    private static void evenOfOnePoint() {
        Due.sentence("Promise 11: the table of 1 point has no other point to take");
        for (State state : State.values()) {
            Due.same(state + ": even(1)", state.make().even(1), 1);
        }
    }

    private static void evenOfTwoPoints() {
        Due.sentence("Promise 11: each table of 2 points gives itself; the first of 3 does not");
        Due.same("even(2)", new CosetTables().even(2), 3);
        Due.same("even(3)", new CosetTables().even(3), 4);
        Due.same("b: even(5)", Words.with("2").even(5), 1);
    }

    private static void evenIsNone() {
        Due.sentence("Promise 11: there may be none, with tables and without");
        CosetTables x = Words.with("00", "222", "0202");
        Due.same("aa, bbb, abab: tables(3)", x.tables(3), 3);
        Due.same("aa, bbb, abab: even(3)", x.even(3), 0);
        Due.same("aa, bbb, abab: tables(5)", x.tables(5), 0);
        Due.same("aa, bbb, abab: even(5)", x.even(5), 0);
    }

    private static void kindsOfOnePoint() {
        Due.sentence("Promise 12: the table of 1 point is one kind");
        for (State state : State.values()) {
            Due.same(state + ": kinds(1)", state.make().kinds(1), 1);
        }
    }

    private static void kindsOfTwoPoints() {
        Due.sentence("Promise 12: a table alike to itself only is a kind; three alike are one kind");
        Due.same("kinds(2)", new CosetTables().kinds(2), 3);
        Due.same("aa, bbb, abab: kinds(3)", Words.with("00", "222", "0202").kinds(3), 1);
        Due.same("kinds(5)", new CosetTables().kinds(5), 97);
    }

    private static void kindsAreNone() {
        Due.sentence("Promise 12: there may be none");
        CosetTables x = Words.with("0", "2");
        for (int n = 2; n <= 5; n++) {
            Due.same("a, b: kinds(" + n + ")", x.kinds(n), 0);
        }
    }

    private static void periodIsAboveZero() {
        Due.sentence("Promise 13: the least m above 0: 1 for the empty word");
        for (int n = 1; n <= 5; n++) {
            CosetTables x = new CosetTables();
            Due.same("period(" + n + ", 0)", x.period(n, 0), 1);
            int last = ALL[n - 1] - 1;
            Due.same("period(" + n + ", " + last + ")", x.period(n, last), 1);
        }
        Due.same("period(1, 0) of a", withWord("0").period(1, 0), 1);
        Due.same("period(5, 0) of aA", withWord("01", "2").period(5, 0), 1);
    }

    private static void periodIsTheLeast() {
        Due.sentence("Promise 13: the least m");
        // On a ring of 4 points a comes back after 4, aa after 2, aaaa after 1, aaaaa after 4.
        int[] want = {4, 2, 4, 1, 4, 2, 4, 1};
        for (int length = 1; length <= 8; length++) {
            Due.same("period(4, 0) of a" + length, withWord("0".repeat(length), "2").period(4, 0), want[length - 1]);
        }
    }

    private static void periodIsAtMostThePoints() {
        Due.sentence("Promise 13: a ring of n points takes n times");
        for (int n = 1; n <= 5; n++) {
            Due.same("period(" + n + ", 0) of a", withWord("0", "2").period(n, 0), n);
            Due.same("period(" + n + ", 0) of A", withWord("1", "2").period(n, 0), n);
        }
    }

    private static void periodOfAFullWord() {
        Due.sentence("Promise 13: a word of 8 letters");
        Due.same("period(5, 0) of a8", withWord("00000000", "2").period(5, 0), 5);
        Due.same("period(3, 0) of a7b", withWord("00000002", "2").period(3, 0), 3);
        Due.same("period(3, 0) of ba7", withWord("20000000", "2").period(3, 0), 3);
        Due.same("period(2, 0) of b7a", withWord("22222220", "2").period(2, 0), 2);
    }

    private static void periodOfPointZero() {
        Due.sentence("Promise 13: takes point 0 to itself");
        // In the first table of 3 points a rests at point 0 and changes points 1 and 2.
        Due.same("period(3, 0) of a", withWord("0").period(3, 0), 1);
        Due.same("period(3, 0) of bab", withWord("202").period(3, 0), 2);
    }

    /** Of 2 points: a rests in the first table, b in the second, neither of them in the last. */
    private static void periodInFirstAndLastTable() {
        Due.sentence("Promise 13: in the table with k others before it, the first and the last");
        int[] ofA = {1, 2, 2, NONE};
        int[] ofB = {2, 1, 2, NONE};
        for (int k = 0; k <= 3; k++) {
            Due.same("period(2, " + k + ") of a", withWord("0").period(2, k), ofA[k]);
            Due.same("period(2, " + k + ") of b", withWord("2").period(2, k), ofB[k]);
        }
        // The greatest table of 5 points is written out at image: a goes 0, 1, 4, 2; b goes
        // 0, 3, 1, 4; a and then b goes 0, 4, 2, 3, 1.
        Due.same("period(5, 460) of a", withWord("0").period(5, 460), 4);
        Due.same("period(5, 460) of b", withWord("2").period(5, 460), 4);
        Due.same("period(5, 460) of ab", withWord("02").period(5, 460), 5);
        Due.same("period(5, 461) of ab", withWord("02").period(5, 461), NONE);
    }

    private static void periodTableOutOfRange() {
        Due.sentence("Promise 13: NONE if there is no such table");
        String[] words = {"", "0", "01230123"};
        for (String word : words) {
            for (int n = 1; n <= 5; n++) {
                CosetTables x = withWord(word);
                int last = ALL[n - 1] - 1;
                Due.holds("period(" + n + ", " + last + ") of '" + word + "' is 1 to n",
                        x.period(n, last) >= 1 && x.period(n, last) <= n);
                for (int k : Outside.of(0, last)) {
                    Due.same("period(" + n + ", " + k + ") of '" + word + "'", x.period(n, k), NONE);
                }
            }
        }
    }

    private static void periodWithoutTables() {
        Due.sentence("Promise 13: no table of n points at all");
        CosetTables x = withWord("", "0", "2");
        Due.same("a, b: period(1, 0)", x.period(1, 0), 1);
        for (int n = 2; n <= 5; n++) {
            Due.same("a, b: period(" + n + ", 0)", x.period(n, 0), NONE);
        }
    }

    private static void fixingOfTheEmptyWord() {
        Due.sentence("Promise 14: the empty word takes point 0 to itself in every table");
        for (int n = 1; n <= 5; n++) {
            Due.same("fixing(" + n + ")", new CosetTables().fixing(n), ALL[n - 1]);
            Due.same("b: fixing(" + n + ")", Words.with("2").fixing(n), 1);
        }
    }

    private static void fixingOfAFullWord() {
        Due.sentence("Promise 14: a word of 8 letters");
        int[] want = {1, 1, 0, 1, 0};
        for (int n = 1; n <= 5; n++) {
            Due.same("fixing(" + n + ") of a8", withWord("00000000", "2").fixing(n), want[n - 1]);
        }
        Due.same("fixing(2) of b7a", withWord("22222220", "2").fixing(2), 0);
    }

    private static void fixingIsNone() {
        Due.sentence("Promise 14: there may be none, with tables and without");
        Due.same("b: fixing(5) of a", withWord("0", "2").fixing(5), 0);
        Due.same("a, b: fixing(5) of the empty word", withWord("", "0", "2").fixing(5), 0);
        Due.same("a, b: fixing(1) of a", withWord("0", "0", "2").fixing(1), 1);
    }

    private static void stillOfTheEmptyWord() {
        Due.sentence("Promise 15: the empty word takes every point to itself");
        Due.same("still()", new CosetTables().still(), 1);
        Due.same("aa: still()", Words.with("00").still(), 1);
        Due.same("a, b: still()", Words.with("0", "2").still(), 1);
    }

    private static void stillOfAFullWord() {
        Due.sentence("Promise 15: a word of 8 letters");
        Due.same("abBAaABb", withWord("02310132").still(), 1);
        Due.same("a8", withWord("00000000").still(), 0);
        Due.same("abBAaABB", withWord("02310133").still(), 0);
        Due.same("a8 with a8", withWord("00000000", "00000000").still(), 1);
        Due.same("a7 with a8", withWord("0000000", "00000000").still(), 0);
    }

    /** With b and this power of a there are tables of those numbers of points alone that divide it. */
    private static void stillSeesTablesOfUpToFive() {
        Due.sentence("Promise 15: all tables of at most 5 points");
        Due.same("only 2 points move", withWord("0", "00", "2").still(), 0);
        Due.same("only 3 points move", withWord("0", "000", "2").still(), 0);
        Due.same("only 4 points move", withWord("00", "0000", "2").still(), 0);
        Due.same("only 5 points move", withWord("0", "00000", "2").still(), 0);
    }

    private static void stillSeesNoMorePoints() {
        Due.sentence("Promise 15: tables of more than 5 points do not count");
        Due.same("only 7 points would move", withWord("0", "0000000", "2").still(), 1);
        Due.same("only 8 points would move", withWord("0000", "00000000", "2").still(), 1);
        // A ring of 6 has tables of 2, 3 and 6 points: twice a moves those of 3.
        Due.same("2 of 6", withWord("00", "000000", "2").still(), 0);
    }

    private static void stillWithOneTable() {
        Due.sentence("Promise 15: the table of 1 point moves nothing");
        Due.same("a, b: still() of abAb", withWord("0212", "0", "2").still(), 1);
        Due.same("a, b: still() of a8", withWord("00000000", "0", "2").still(), 1);
    }

    private static void cyclicOfOne() {
        Due.sentence("Promise 16: m is 1: x and y are 0");
        for (State state : State.values()) {
            Due.same(state + ": cyclic(1)", state.make().cyclic(1), 1);
        }
        Due.same("a, b: cyclic(1)", Words.with("0", "2").cyclic(1), 1);
        Due.same("a, b: cyclic(2)", Words.with("0", "2").cyclic(2), 1);
    }

    private static void cyclicOfAThousand() {
        Due.sentence("Promise 16: m is 1000");
        Due.same("cyclic(999)", new CosetTables().cyclic(999), 999 * 999);
        Due.same("cyclic(1000)", new CosetTables().cyclic(1000), 1000 * 1000);
        Due.same("a8, b5: cyclic(1000)", Words.with("00000000", "22222").cyclic(1000), 8 * 5);
        Due.same("A8, B5: cyclic(1000)", Words.with("11111111", "33333").cyclic(1000), 8 * 5);
    }

    private static void cyclicOutOfRange() {
        Due.sentence("Promise 16: BAD_ARG if m is not 1 to 1000");
        for (State state : State.values()) {
            CosetTables x = state.make();
            for (int m : Outside.of(1, 1000)) {
                Due.same(state + ": cyclic(" + m + ")", x.cyclic(m), BAD_ARG);
            }
        }
    }

    private static void cyclicWithoutRelators() {
        Due.sentence("Promise 16: with no relators every choice counts");
        for (int m = 1; m <= 64; m++) {
            Due.same("cyclic(" + m + ")", new CosetTables().cyclic(m), m * m);
        }
        Due.same("cyclic(9) with a word that is no relator", withWord("0").cyclic(9), 81);
    }

    private static void cyclicWithTheEmptyRelator() {
        Due.sentence("Promise 16: the empty relator, whose sum is 0, is divided by every m");
        for (int m = 1; m <= 64; m++) {
            Due.same("empty: cyclic(" + m + ")", Words.with("").cyclic(m), m * m);
        }
        Due.same("empty: cyclic(1000)", Words.with("").cyclic(1000), 1000 * 1000);
    }

    /** Where x is y the choices are 0, 0 to m - 1, m - 1; where x + y is 0 they are turned round. */
    private static void cyclicFromZeroToLast() {
        Due.sentence("Promise 16: numbers x and y from 0 to m - 1");
        for (int m = 1; m <= 64; m++) {
            Due.same("aB: cyclic(" + m + ")", Words.with("03").cyclic(m), m);
            Due.same("ab: cyclic(" + m + ")", Words.with("02").cyclic(m), m);
            Due.same("a: cyclic(" + m + ")", Words.with("0").cyclic(m), m);
            Due.same("b: cyclic(" + m + ")", Words.with("2").cyclic(m), m);
        }
    }

    private static void cyclicWithSumsOfZeroOrLess() {
        Due.sentence("Promise 16: less how often its inverse is in it: sums of 0 and below");
        Due.same("aA: cyclic(30)", Words.with("01").cyclic(30), 900);
        Due.same("bB: cyclic(30)", Words.with("23").cyclic(30), 900);
        Due.same("abAB: cyclic(30)", Words.with("0213").cyclic(30), 900);
        Due.same("A6: cyclic(30)", Words.with("111111").cyclic(30), 6 * 30);
        Due.same("B5: cyclic(30)", Words.with("33333").cyclic(30), 5 * 30);
        Due.same("A8: cyclic(30)", Words.with("11111111").cyclic(30), 2 * 30);
        Due.same("aAAA: cyclic(30)", Words.with("0111").cyclic(30), 2 * 30);
        Due.same("bBBBB: cyclic(30)", Words.with("23333").cyclic(30), 3 * 30);
        Due.same("AAbb: cyclic(30)", Words.with("1122").cyclic(30), 2 * 30);
        Due.same("AABB: cyclic(30)", Words.with("1133").cyclic(30), 2 * 30);
    }

    private static void cyclicForEveryRelator() {
        Due.sentence("Promise 16: for every relator, the first and the last of four too");
        for (int k = 0; k < 4; k++) {
            String[] relators = {"", "", "", ""};
            relators[k] = "000";
            Due.same("aaa as relator " + k + ": cyclic(12)", Words.with(relators).cyclic(12), 3 * 12);
            relators[k] = "222";
            Due.same("bbb as relator " + k + ": cyclic(12)", Words.with(relators).cyclic(12), 3 * 12);
        }
    }
}

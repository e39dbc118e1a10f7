/**
 * Each promise by itself: ordinary inputs, the edges that the document names, and wrong inputs. What
 * is due was worked out from the document or is known of the group, never read off the program.
 */
public final class PromisesTest {
    private static final int BAD_ARG = -1;
    private static final int FULL = -2;
    private static final int NONE = -4;
    private static final int LEAST = Integer.MIN_VALUE;
    private static final int GREATEST = Integer.MAX_VALUE;

    public static void main(String[] args) {
        constants();
        newObject();
        letter();
        clear();
        invert();
        relate();
        drop();
        word();
        tables();
        image();
        imageRefused();
        actions();
        even();
        kinds();
        period();
        fixing();
        still();
        cyclic();
        pointCounts();
        questionsChangeNothing();
        refusalsChangeNothing();
        objectsAreApart();
        Due.end();
    }

    private static void constants() {
        Due.same("BAD_ARG", CosetTables.BAD_ARG, BAD_ARG);
        Due.same("FULL", CosetTables.FULL, FULL);
        Due.same("NONE", CosetTables.NONE, NONE);
    }

    private static void newObject() {
        CosetTables x = new CosetTables();
        Due.same("new: word()", x.word(), 1);
        Due.same("new: clear()", x.clear(), 0);
        Due.same("new: drop(0)", x.drop(0), NONE);
        Due.same("new: relate()", x.relate(), 1);
        Due.tables("new", new CosetTables(), 1, 3, 13, 71, 461);
    }

    private static void letter() {
        CosetTables x = new CosetTables();
        Due.same("letter(-1)", x.letter(-1), BAD_ARG);
        Due.same("letter(4)", x.letter(4), BAD_ARG);
        Due.same("letter(LEAST)", x.letter(LEAST), BAD_ARG);
        Due.same("letter(GREATEST)", x.letter(GREATEST), BAD_ARG);
        Due.same("word() after refused letters", x.word(), 1);
        for (int i = 0; i < 8; i++) {
            Due.same("letter, " + i + " before it", x.letter(i % 4), i + 1);
        }
        Due.same("word() of 8 letters", x.word(), Words.number("01230123"));
        Due.same("letter(0) on a full word", x.letter(0), FULL);
        Due.same("letter(3) on a full word", x.letter(3), FULL);
        Due.same("letter(4) on a full word", x.letter(4), BAD_ARG);
        Due.same("letter(-1) on a full word", x.letter(-1), BAD_ARG);
        Due.same("word() after a full word refused", x.word(), Words.number("01230123"));
    }

    private static void clear() {
        CosetTables x = new CosetTables();
        Due.same("clear() of the empty word", x.clear(), 0);
        Words.put(x, "012");
        Due.same("clear() of 3 letters", x.clear(), 3);
        Due.same("word() after clear", x.word(), 1);
        Due.same("clear() twice", x.clear(), 0);
        Words.put(x, "33333333");
        Due.same("clear() of 8 letters", x.clear(), 8);
        Due.same("letter after clear", x.letter(2), 1);
        Due.same("word() after clear and a letter", x.word(), Words.number("2"));
        CosetTables y = Words.with("00");
        Words.put(y, "2");
        y.clear();
        Due.same("clear() keeps relators", y.tables(3), 7);
    }

    private static void invert() {
        String[] words = {"", "0", "1", "2", "3", "02", "00", "012", "0213", "22010", "01230123", "00000000"};
        String[] inverses = {"", "1", "0", "3", "2", "31", "11", "301", "2031", "10133", "23012301", "11111111"};
        for (int i = 0; i < words.length; i++) {
            CosetTables x = new CosetTables();
            Words.put(x, words[i]);
            Due.same("invert() of " + words[i], x.invert(), words[i].length());
            Due.same("word() after invert of " + words[i], x.word(), Words.number(inverses[i]));
            Due.same("invert() again of " + words[i], x.invert(), words[i].length());
            Due.same("word() after two inverts of " + words[i], x.word(), Words.number(words[i]));
        }
    }

    private static void relate() {
        CosetTables x = new CosetTables();
        Words.put(x, "00");
        Due.same("relate() first", x.relate(), 1);
        Due.same("relate() keeps the word", x.word(), Words.number("00"));
        x.letter(0);
        Due.same("a relator is apart from the word put further", x.tables(3), 7);
        Due.same("relate() second", x.relate(), 2);
        Due.same("letter 0 is 1 now", x.tables(2), 1);
        x.clear();
        Due.same("relate() of the empty word", x.relate(), 3);
        Due.same("the empty relator always holds", x.tables(2), 1);
        Words.put(x, "22222222");
        Due.same("relate() fourth", x.relate(), 4);
        Due.same("relate() fifth", x.relate(), FULL);
        Due.same("relate() fifth again", x.relate(), FULL);
        Due.same("drop after FULL", x.drop(3), 3);
        Due.same("relate() after drop", x.relate(), 4);
        Due.same("word() after all", x.word(), Words.number("22222222"));
        CosetTables y = new CosetTables();
        Words.put(y, "02");
        y.relate();
        y.invert();
        Due.same("invert changes the word only", y.relate(), 2);
        Due.tables("ab and its inverse", y, 1, 1, 1, 1, 1);
    }

    private static void drop() {
        CosetTables x = new CosetTables();
        Due.same("drop(0) of none", x.drop(0), NONE);
        x = Words.with("0", "2", "00");
        Due.same("drop(-1)", x.drop(-1), NONE);
        Due.same("drop(3) of 3", x.drop(3), NONE);
        Due.same("drop(LEAST)", x.drop(LEAST), NONE);
        Due.same("drop(GREATEST)", x.drop(GREATEST), NONE);
        Due.tables("nothing dropped", x, 1, 0, 0, 0, 0);
        Due.same("drop(0) of 3", x.drop(0), 2);
        Due.tables("b, aa", x, 1, 1, 0, 0, 0);
        Due.same("drop(2) of 2", x.drop(2), NONE);
        Due.same("drop(1) of 2", x.drop(1), 1);
        Due.tables("b", x, 1, 1, 1, 1, 1);
        Due.same("drop(0) of 1", x.drop(0), 0);
        Due.tables("none left", x, 1, 3, 13, 71, 461);
        Due.same("drop(0) of none left", x.drop(0), NONE);
        dropMovesTheLaterOnesDown();
    }

    /** With relators aaaa.. of other lengths, the cyclic counts tell which ones are left. */
    private static void dropMovesTheLaterOnesDown() {
        CosetTables x = Words.with("0000", "222", "00000000", "22222222");
        Due.same("aaaa, bbb, a8, b8: cyclic(24)", x.cyclic(24), 4);
        Due.same("drop(1) of 4", x.drop(1), 3);
        Due.same("aaaa, a8, b8: cyclic(24)", x.cyclic(24), 4 * 8);
        Due.same("drop(0) of 3", x.drop(0), 2);
        Due.same("a8, b8: cyclic(24)", x.cyclic(24), 8 * 8);
        Words.put(x, "22");
        Due.same("relate() comes last", x.relate(), 3);
        Due.same("a8, b8, bb: cyclic(24)", x.cyclic(24), 8 * 2);
        Due.same("drop(1) of 3", x.drop(1), 2);
        Due.same("a8, bb: cyclic(24)", x.cyclic(24), 8 * 2);
        Due.same("drop(0) of 2", x.drop(0), 1);
        Due.same("bb: cyclic(24)", x.cyclic(24), 24 * 2);
        Words.put(x, "0");
        Due.same("drop keeps the word", x.word(), Words.number("0"));
    }

    private static void word() {
        CosetTables x = new CosetTables();
        Due.same("word() of the empty word", x.word(), 1);
        x.letter(0);
        Due.same("word() of 0", x.word(), 4);
        x.letter(3);
        Due.same("word() of 03", x.word(), 19);
        x.letter(2);
        Due.same("word() of 032", x.word(), 78);
        Words.put(x, "00000000");
        Due.same("word() of eight 0", x.word(), 65536);
        Words.put(x, "33333333");
        Due.same("word() of eight 3", x.word(), 131071);
    }

    /** Known: subgroups of each index in the groups that the relators give. */
    private static void tables() {
        Due.tables("free group", Words.with(), 1, 3, 13, 71, 461);
        Due.tables("aa", Words.with("00"), 1, 3, 7, 23, 71);
        Due.tables("aa, bbb", Words.with("00", "222"), 1, 1, 4, 8, 5);
        Due.tables("aa, bb", Words.with("00", "22"), 1, 3, 3, 5, 5);
        Due.tables("ab = ba", Words.with("0213"), 1, 3, 4, 7, 6);
        Due.tables("b", Words.with("2"), 1, 1, 1, 1, 1);
        Due.tables("a, b", Words.with("0", "2"), 1, 0, 0, 0, 0);
        Due.tables("four group", Words.with("00", "22", "0202"), 1, 3, 0, 1, 0);
        Due.tables("symmetric group of 3", Words.with("00", "222", "0202"), 1, 1, 3, 0, 0);
        Due.tables("alternating group of 4", Words.with("00", "222", "020202"), 1, 0, 1, 4, 0);
        Due.tables("symmetric group of 4", Words.with("00", "222", "02020202"), 1, 1, 3, 4, 0);
        Due.tables("quaternions", Words.with("0022", "0303", "0000"), 1, 3, 0, 3, 0);
        Due.tables("klein bottle", Words.with("0212"), 1, 3, 4, 7, 6);
        Due.tables("the last of four", Words.with("", "01", "0213", "2"), 1, 1, 1, 1, 1);
        Due.tables("words that cancel", Words.with("01", "2332", "", "02310132"), 1, 3, 13, 71, 461);
    }

    private static void image() {
        CosetTables x = new CosetTables();
        Due.table("free", x, 1, 0, "0000");
        Due.table("free", x, 2, 0, "00111100");
        Due.table("free", x, 2, 1, "11000011");
        Due.table("free", x, 2, 2, "11110000");
        Due.same("free: image(2, 3, 0, 0)", x.image(2, 3, 0, 0), NONE);
        Due.table("ab = ba", Words.with("0213"), 3, 0, "0012" + "1120" + "2201");
        Due.table("ab = ba", Words.with("0213"), 3, 1, "1200" + "2011" + "0122");
        Due.table("ab = ba", Words.with("0213"), 3, 2, "1212" + "2020" + "0101");
        Due.table("ab = ba", Words.with("0213"), 3, 3, "1221" + "2002" + "0110");
        Due.table("symmetric group of 3", Words.with("00", "222", "0202"), 3, 0, "0012" + "2220" + "1101");
        Due.table("symmetric group of 3", Words.with("00", "222", "0202"), 3, 1, "1112" + "0020" + "2201");
        Due.table("symmetric group of 3", Words.with("00", "222", "0202"), 3, 2, "1121" + "0002" + "2210");
        CosetTables y = new CosetTables();
        Due.same("free: first of 5 points, point 0", y.image(5, 0, 0, 1), 0);
        Due.same("free: last of 5 points", y.image(5, 460, 0, 0), 1);
        Due.same("free: behind the last of 5 points", y.image(5, 461, 0, 0), NONE);
    }

    private static void imageRefused() {
        CosetTables x = new CosetTables();
        int[] badPoints = {-1, 2, 3, 5, LEAST, GREATEST};
        for (int p : badPoints) {
            Due.same("image(2, 0, " + p + ", 0)", x.image(2, 0, p, 0), BAD_ARG);
            Due.same("image(2, 99, " + p + ", 0)", x.image(2, 99, p, 0), BAD_ARG);
        }
        int[] badLetters = {-1, 4, 5, LEAST, GREATEST};
        for (int letter : badLetters) {
            Due.same("image(2, 0, 1, " + letter + ")", x.image(2, 0, 1, letter), BAD_ARG);
            Due.same("image(2, -1, 1, " + letter + ")", x.image(2, -1, 1, letter), BAD_ARG);
        }
        int[] noTables = {-1, 3, 4, 461, LEAST, GREATEST};
        for (int k : noTables) {
            Due.same("image(2, " + k + ", 1, 3)", x.image(2, k, 1, 3), NONE);
        }
        // A search over 5 points leaves 461 tables behind it: none of them counts for 2 points.
        x.tables(5);
        Due.same("image(2, 3, 0, 0) after tables(5)", x.image(2, 3, 0, 0), NONE);
    }

    private static void dueActions(String what, CosetTables x, int... want) {
        for (int n = 1; n <= 5; n++) {
            Due.same(what + ": actions(" + n + ")", x.actions(n), want[n - 1]);
        }
    }

    /** Known: homomorphisms from the group into the permutations of n points. */
    private static void actions() {
        dueActions("free", Words.with(), 1, 4, 36, 576, 14400);
        dueActions("a", Words.with("0"), 1, 2, 6, 24, 120);
        dueActions("a, b", Words.with("0", "2"), 1, 1, 1, 1, 1);
        dueActions("aa, b", Words.with("00", "2"), 1, 2, 4, 10, 26);
        dueActions("aa, bb", Words.with("00", "22"), 1, 4, 16, 100, 676);
        dueActions("aaa, b", Words.with("000", "2"), 1, 1, 3, 9, 21);
        // Pairs that commute: n! times the number of the partitions of n.
        dueActions("ab = ba", Words.with("0213"), 1, 2 * 2, 6 * 3, 24 * 5, 120 * 7);
    }

    private static void dueEven(String what, CosetTables x, int... want) {
        for (int n = 1; n <= 5; n++) {
            Due.same(what + ": even(" + n + ")", x.even(n), want[n - 1]);
        }
    }

    /** Known: normal subgroups of each index. */
    private static void even() {
        dueEven("free", Words.with(), 1, 3, 4, 7, 6);
        dueEven("ab = ba", Words.with("0213"), 1, 3, 4, 7, 6);
        dueEven("aa", Words.with("00"), 1, 3, 1, 3, 1);
        dueEven("symmetric group of 3", Words.with("00", "222", "0202"), 1, 1, 0, 0, 0);
        dueEven("alternating group of 4", Words.with("00", "222", "020202"), 1, 0, 1, 0, 0);
        dueEven("quaternions", Words.with("0022", "0303", "0000"), 1, 3, 0, 3, 0);
        dueEven("a, b", Words.with("0", "2"), 1, 0, 0, 0, 0);
    }

    private static void dueKinds(String what, CosetTables x, int... want) {
        for (int n = 1; n <= 5; n++) {
            Due.same(what + ": kinds(" + n + ")", x.kinds(n), want[n - 1]);
        }
    }

    /** Known: classes of conjugate subgroups of each index. */
    private static void kinds() {
        dueKinds("free", Words.with(), 1, 3, 7, 26, 97);
        dueKinds("ab = ba", Words.with("0213"), 1, 3, 4, 7, 6);
        dueKinds("aa, bbb", Words.with("00", "222"), 1, 1, 2, 2, 1);
        dueKinds("symmetric group of 3", Words.with("00", "222", "0202"), 1, 1, 1, 0, 0);
        dueKinds("alternating group of 4", Words.with("00", "222", "020202"), 1, 0, 1, 1, 0);
        dueKinds("symmetric group of 4", Words.with("00", "222", "02020202"), 1, 1, 1, 1, 0);
        dueKinds("klein bottle", Words.with("0212"), 1, 3, 2, 5, 2);
        dueKinds("a, b", Words.with("0", "2"), 1, 0, 0, 0, 0);
    }

    private static void period() {
        CosetTables x = Words.with("2");
        String[] words = {"", "0", "1", "00", "000", "0000", "00000", "2", "01", "020202", "00000000"};
        // With b = 1 the one table of n points is a cycle: a power e of a has the period n / gcd(n, e).
        int[] exponents = {0, 1, -1, 2, 3, 4, 5, 0, 0, 3, 8};
        for (int i = 0; i < words.length; i++) {
            Words.put(x, words[i]);
            for (int n = 1; n <= 5; n++) {
                int want = n / gcd(n, exponents[i]);
                Due.same("period(" + n + ", 0) of " + words[i], x.period(n, 0), want);
                Due.same("period(" + n + ", 1) of " + words[i], x.period(n, 1), NONE);
                Due.same("period(" + n + ", -1) of " + words[i], x.period(n, -1), NONE);
            }
        }
        Due.same("period(3, LEAST)", x.period(3, LEAST), NONE);
        Due.same("period(3, GREATEST)", x.period(3, GREATEST), NONE);
        // Point 0 has a period of its own: it rests here where the others are moved.
        CosetTables y = Words.with("00", "222", "0202");
        Words.put(y, "0");
        Due.same("period(3, 0) of a", y.period(3, 0), 1);
        Due.same("period(3, 1) of a", y.period(3, 1), 2);
        Words.put(y, "2");
        Due.same("period(3, 0) of b", y.period(3, 0), 3);
        Due.same("period(3, 3) of b", y.period(3, 3), NONE);
    }

    private static int gcd(int a, int b) {
        return b == 0 ? Math.abs(a) : gcd(b, a % b);
    }

    private static void dueFixing(String what, CosetTables x, String word, int... want) {
        Words.put(x, word);
        for (int n = 1; n <= 5; n++) {
            Due.same(what + ": fixing(" + n + ") of " + word, x.fixing(n), want[n - 1]);
        }
    }

    /** Known: subgroups of each index that hold the word. */
    private static void fixing() {
        dueFixing("free", Words.with(), "", 1, 3, 13, 71, 461);
        dueFixing("free", Words.with(), "0110", 1, 3, 13, 71, 461);
        dueFixing("ab = ba", Words.with("0213"), "0213", 1, 3, 4, 7, 6);
        dueFixing("ab = ba", Words.with("0213"), "0", 1, 1, 1, 1, 1);
        dueFixing("ab = ba", Words.with("0213"), "00", 1, 3, 1, 3, 1);
        dueFixing("symmetric group of 3", Words.with("00", "222", "0202"), "0", 1, 0, 1, 0, 0);
        dueFixing("symmetric group of 3", Words.with("00", "222", "0202"), "2", 1, 1, 0, 0, 0);
        dueFixing("symmetric group of 4", Words.with("00", "222", "02020202"), "2", 1, 1, 0, 1, 0);
    }

    private static void dueStill(String what, CosetTables x, String word, int want) {
        Words.put(x, word);
        Due.same(what + ": still() of " + word, x.still(), want);
    }

    private static void still() {
        dueStill("free", Words.with(), "", 1);
        dueStill("free", Words.with(), "0231", 1);
        dueStill("free", Words.with(), "02310132", 1);
        dueStill("free", Words.with(), "0213", 0);
        dueStill("free", Words.with(), "00000000", 0);
        dueStill("free", Words.with(), "0", 0);
        dueStill("aa", Words.with("00"), "00", 1);
        dueStill("aa", Words.with("00"), "11", 1);
        dueStill("aa", Words.with("00"), "22", 0);
        dueStill("aa", Words.with("00", "2"), "0", 0);
        dueStill("a3", Words.with("000", "2"), "0", 0);
        dueStill("a5", Words.with("00000", "2"), "0", 0);
        dueStill("a4", Words.with("0000", "2"), "00", 0);
        // A cycle of 7 points is too large to show; one of 5 points shows in the last tables only.
        dueStill("a7", Words.with("0000000", "2"), "0", 1);
        dueStill("a5", Words.with("00000", "2"), "0000", 0);
        dueStill("a, b", Words.with("0", "2"), "02020202", 1);
        // aa moves no point of the table of 2 points, but every point of that of 4.
        dueStill("a8", Words.with("00000000", "2"), "00", 0);
        dueStill("a8", Words.with("00000000", "2"), "0000", 1);
    }

    private static void cyclic() {
        CosetTables x = Words.with();
        Due.same("free: cyclic(1)", x.cyclic(1), 1);
        Due.same("free: cyclic(7)", x.cyclic(7), 49);
        Due.same("free: cyclic(999)", x.cyclic(999), 998001);
        Due.same("free: cyclic(1000)", x.cyclic(1000), 1000000);
        int[] bad = {0, -1, 1001, LEAST, GREATEST};
        for (int m : bad) {
            Due.same("cyclic(" + m + ")", x.cyclic(m), BAD_ARG);
        }
        Due.same("a: cyclic(1000)", Words.with("0").cyclic(1000), 1000);
        Due.same("A: cyclic(1000)", Words.with("1").cyclic(1000), 1000);
        Due.same("b: cyclic(1000)", Words.with("2").cyclic(1000), 1000);
        Due.same("B: cyclic(1000)", Words.with("3").cyclic(1000), 1000);
        Due.same("a, b: cyclic(1000)", Words.with("0", "2").cyclic(1000), 1);
        Due.same("abAB: cyclic(1000)", Words.with("0213").cyclic(1000), 1000000);
        Due.same("a8: cyclic(1000)", Words.with("00000000").cyclic(1000), 8000);
        Due.same("A8: cyclic(12)", Words.with("11111111").cyclic(12), 4 * 12);
        Due.same("aaB: cyclic(10)", Words.with("003").cyclic(10), 10);
        Due.same("aabb: cyclic(10)", Words.with("0022").cyclic(10), 20);
        Due.same("aab, abb: cyclic(9)", Words.with("002", "022").cyclic(9), 3);
        Due.same("aab, abb: cyclic(10)", Words.with("002", "022").cyclic(10), 1);
        Due.same("ab, aB: cyclic(10)", Words.with("02", "03").cyclic(10), 2);
        Due.same("a4, b6, aabb, abab: cyclic(12)", Words.with("0000", "222222", "0022", "0202").cyclic(12), 4);
        Due.same("the last of four: cyclic(5)", Words.with("", "01", "0213", "2").cyclic(5), 5);
    }

    /** In every call with n, n is tested first, before the other arguments and the tables. */
    private static void pointCounts() {
        CosetTables x = new CosetTables();
        int[] bad = {0, -1, 6, 7, LEAST, GREATEST};
        for (int n : bad) {
            Due.same("tables(" + n + ")", x.tables(n), BAD_ARG);
            Due.same("image(" + n + ", 0, 0, 0)", x.image(n, 0, 0, 0), BAD_ARG);
            Due.same("image(" + n + ", -1, 0, 0)", x.image(n, -1, 0, 0), BAD_ARG);
            Due.same("actions(" + n + ")", x.actions(n), BAD_ARG);
            Due.same("even(" + n + ")", x.even(n), BAD_ARG);
            Due.same("kinds(" + n + ")", x.kinds(n), BAD_ARG);
            Due.same("period(" + n + ", 0)", x.period(n, 0), BAD_ARG);
            Due.same("period(" + n + ", -1)", x.period(n, -1), BAD_ARG);
            Due.same("fixing(" + n + ")", x.fixing(n), BAD_ARG);
        }
    }

    private static void questionsChangeNothing() {
        CosetTables x = Words.with("00", "222");
        Words.put(x, "0213");
        for (int round = 0; round < 2; round++) {
            Due.same("asked again: word()", x.word(), Words.number("0213"));
            Due.tables("asked again", x, 1, 1, 4, 8, 5);
            dueKinds("asked again", x, 1, 1, 2, 2, 1);
            Due.same("asked again: even(3)", x.even(3), 1);
            Due.same("asked again: actions(3)", x.actions(3), 12);
            Due.same("asked again: period(2, 0)", x.period(2, 0), 1);
            Due.same("asked again: fixing(2)", x.fixing(2), 1);
            Due.same("asked again: still()", x.still(), 0);
            Due.same("asked again: cyclic(6)", x.cyclic(6), 6);
        }
        Due.same("asked: relators", x.drop(2), NONE);
        Due.same("asked: relators", x.drop(1), 1);
    }

    private static void refusalsChangeNothing() {
        CosetTables x = Words.with("00", "222", "", "");
        Words.put(x, "01230123");
        x.letter(4);
        x.letter(0);
        x.relate();
        x.drop(4);
        x.drop(-1);
        x.tables(6);
        x.image(2, 0, 2, 0);
        x.image(5, 99, 0, 0);
        x.period(0, 0);
        x.period(5, 99);
        x.cyclic(1001);
        Due.same("refused: word()", x.word(), Words.number("01230123"));
        Due.tables("refused", x, 1, 1, 4, 8, 5);
        Due.same("refused: drop(3)", x.drop(3), 3);
    }

    private static void objectsAreApart() {
        CosetTables x = new CosetTables();
        CosetTables y = Words.with("0");
        x.letter(3);
        Due.same("apart: x.word()", x.word(), Words.number("3"));
        Due.same("apart: y.word()", y.word(), 1);
        Due.same("apart: x.tables(2)", x.tables(2), 3);
        Due.same("apart: y.tables(2)", y.tables(2), 1);
    }
}

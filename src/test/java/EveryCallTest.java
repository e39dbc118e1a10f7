import java.util.ArrayList;
import java.util.List;
import java.util.function.ToIntFunction;

/** The sentences of "Terms" that hold for every call, and the 512 calls for which an object is used. */
public final class EveryCallTest {
    private static final int BAD_ARG = -1;
    private static final int FULL = -2;
    private static final int NONE = -4;
    private static final int LEAST = Integer.MIN_VALUE;
    private static final int GREATEST = Integer.MAX_VALUE;
    private static final int CALLS = 512;

    /** A call with the answer that is due. */
    private record Call(String name, ToIntFunction<CosetTables> call, int due) {
        void on(String at, CosetTables x) {
            Due.same(at + ": " + name, call.applyAsInt(x), due);
        }
    }

    public static void main(String[] args) {
        Due.each(
                EveryCallTest::codes,
                EveryCallTest::pointsInRange,
                EveryCallTest::pointsAreTestedFirst);
        for (MethodWithN method : METHODS_WITH_N) {
            Due.each(() -> pointsOutOfRange(method));
        }
        for (State state : State.values()) {
            Due.each(
                    () -> refusedChangesNothing(state),
                    () -> refusedInARowChangesNothing(state),
                    () -> questionsChangeNothing(state),
                    () -> nothingThrows(state));
        }
        Due.each(
                EveryCallTest::theSameCallAllTheTime,
                EveryCallTest::lettersAllTheTime,
                EveryCallTest::relatorsAllTheTime,
                EveryCallTest::invertAllTheTime,
                EveryCallTest::refusedAllTheTime,
                EveryCallTest::theLastCall);
        Due.end();
    }

    private static void codes() {
        Due.sentence("Terms: the constants");
        Due.same("BAD_ARG", CosetTables.BAD_ARG, -1);
        Due.same("FULL", CosetTables.FULL, -2);
        Due.same("NONE", CosetTables.NONE, -4);
    }

    private interface OfPoints {
        int ask(CosetTables x, int n);
    }

    /** A method that takes n, with other arguments that are in range. */
    private record MethodWithN(String name, String others, OfPoints question) {
        Call call(int n, int due) {
            return new Call(name + "(" + n + others + ")", x -> question.ask(x, n), due);
        }
    }

    private static final List<MethodWithN> METHODS_WITH_N = List.of(
            new MethodWithN("tables", "", CosetTables::tables),
            new MethodWithN("image", ", 0, 0, 0", (x, n) -> x.image(n, 0, 0, 0)),
            new MethodWithN("actions", "", CosetTables::actions),
            new MethodWithN("even", "", CosetTables::even),
            new MethodWithN("kinds", "", CosetTables::kinds),
            new MethodWithN("period", ", 0", (x, n) -> x.period(n, 0)),
            new MethodWithN("fixing", "", CosetTables::fixing));

    /** With b as a relator and a as the word: one table, a ring, and n! actions. */
    private static void pointsInRange() {
        Due.sentence("Terms: n from 1 to 5 is allowed in every call with n");
        int[] factorials = {1, 2, 6, 24, 120};
        for (int n = 1; n <= 5; n++) {
            CosetTables x = Words.with("2");
            Words.put(x, "0");
            Due.same("tables(" + n + ")", x.tables(n), 1);
            Due.same("image(" + n + ", 0, 0, 0)", x.image(n, 0, 0, 0), n == 1 ? 0 : 1);
            Due.same("actions(" + n + ")", x.actions(n), factorials[n - 1]);
            Due.same("even(" + n + ")", x.even(n), 1);
            Due.same("kinds(" + n + ")", x.kinds(n), 1);
            Due.same("period(" + n + ", 0)", x.period(n, 0), n);
            Due.same("fixing(" + n + ")", x.fixing(n), n == 1 ? 1 : 0);
        }
    }

    private static void pointsOutOfRange(MethodWithN method) {
        Due.sentence("Terms: n not 1 to 5 answers BAD_ARG in " + method.name());
        for (int n : Outside.of(1, 5)) {
            for (State state : State.values()) {
                method.call(n, BAD_ARG).on("" + state, state.make());
            }
        }
    }

    private static void pointsAreTestedFirst() {
        Due.sentence("Terms: n is tested first");
        int[] others = {LEAST, -1, 0, 4, 5, 461, GREATEST};
        for (int n : Outside.of(1, 5)) {
            CosetTables x = new CosetTables();
            for (int k : others) {
                Due.same("period(" + n + ", " + k + ")", x.period(n, k), BAD_ARG);
                Due.same("image(" + n + ", " + k + ", 0, 0)", x.image(n, k, 0, 0), BAD_ARG);
                Due.same("image(" + n + ", " + k + ", -1, 4)", x.image(n, k, -1, 4), BAD_ARG);
                Due.same("image(" + n + ", 0, " + k + ", 0)", x.image(n, 0, k, 0), BAD_ARG);
            }
        }
    }

    /** The calls that are refused in this state. */
    private static List<Call> refused(State state) {
        List<Call> calls = new ArrayList<>();
        for (int letter : Outside.of(0, 3)) {
            calls.add(new Call("letter(" + letter + ")", x -> x.letter(letter), BAD_ARG));
            calls.add(new Call("image(1, 0, 0, " + letter + ")", x -> x.image(1, 0, 0, letter), BAD_ARG));
        }
        for (int n : Outside.of(1, 5)) {
            METHODS_WITH_N.forEach(method -> calls.add(method.call(n, BAD_ARG)));
        }
        for (int p : Outside.of(0, 0)) {
            calls.add(new Call("image(1, 0, " + p + ", 0)", x -> x.image(1, 0, p, 0), BAD_ARG));
            calls.add(new Call("image(1, " + p + ", 0, 0)", x -> x.image(1, p, 0, 0), NONE));
            calls.add(new Call("period(1, " + p + ")", x -> x.period(1, p), NONE));
        }
        for (int k : Outside.of(0, 460)) {
            calls.add(new Call("image(5, " + k + ", 4, 3)", x -> x.image(5, k, 4, 3), NONE));
            calls.add(new Call("period(5, " + k + ")", x -> x.period(5, k), NONE));
        }
        for (int m : Outside.of(1, 1000)) {
            calls.add(new Call("cyclic(" + m + ")", x -> x.cyclic(m), BAD_ARG));
        }
        for (int k : Outside.of(0, state.relators - 1)) {
            calls.add(new Call("drop(" + k + ")", x -> x.drop(k), NONE));
        }
        if (state == State.FULL) {
            for (int letter = 0; letter <= 3; letter++) {
                int one = letter;
                calls.add(new Call("letter(" + one + ")", x -> x.letter(one), FULL));
            }
        }
        if (state.relators == 4) {
            calls.add(new Call("relate()", x -> x.relate(), FULL));
        }
        return calls;
    }

    private static void refusedChangesNothing(State state) {
        Due.sentence("Terms: a refused call changes nothing, " + state);
        for (Call call : refused(state)) {
            CosetTables x = state.make();
            call.on("" + state, x);
            call.on(state + " again", x);
            state.stands("after " + call.name(), x);
        }
    }

    private static void refusedInARowChangesNothing(State state) {
        Due.sentence("Terms: many refused calls change nothing, " + state);
        CosetTables x = state.make();
        for (Call call : refused(state)) {
            call.on("" + state, x);
        }
        state.stands("after all refused calls", x);
    }

    private static void questionsChangeNothing(State state) {
        Due.sentence("Terms: word and relators change by their own calls alone, " + state);
        CosetTables x = state.make();
        for (int n = 1; n <= 5; n++) {
            x.tables(n);
            x.image(n, 0, n - 1, 3);
            x.actions(n);
            x.even(n);
            x.kinds(n);
            x.period(n, 0);
            x.fixing(n);
        }
        x.word();
        x.still();
        x.cyclic(1000);
        state.stands("after every question", x);
    }

    private static boolean isWithin(int number, int least, int greatest) {
        return number >= least && number <= greatest;
    }

    /** What image is due to answer: its code, or 0 for any point. */
    private static int dueImage(int n, int k, int p, int letter, State state) {
        if (!isWithin(n, 1, 5) || !isWithin(p, 0, n - 1) || !isWithin(letter, 0, 3)) {
            return BAD_ARG;
        }
        return isWithin(k, 0, state.tables(n) - 1) ? 0 : NONE;
    }

    private static int duePeriod(int n, int k, State state) {
        if (!isWithin(n, 1, 5)) {
            return BAD_ARG;
        }
        return isWithin(k, 0, state.tables(n) - 1) ? 0 : NONE;
    }

    private static void nothingThrows(State state) {
        Due.sentence("Terms: no call ever throws, " + state);
        tablesThrowNothing(state);
        oneArgumentThrowsNothing(state);
    }

    private static void tablesThrowNothing(State state) {
        int[] counts = {LEAST, -1, 0, 1, 2, 4, 5, 6, GREATEST};
        int[] numbers = {LEAST, -1, 0, 1, 2, 460, 461, GREATEST};
        int[] points = {LEAST, -1, 0, 1, 3, 4, 5, GREATEST};
        int[] letters = {LEAST, -1, 0, 3, 4, GREATEST};
        for (int n : counts) {
            for (int k : numbers) {
                CosetTables x = state.make();
                dueCode(state + ": period(" + n + ", " + k + ")", () -> x.period(n, k), duePeriod(n, k, state));
                for (int p : points) {
                    for (int letter : letters) {
                        dueCode(state + ": image(" + n + ", " + k + ", " + p + ", " + letter + ")",
                                () -> x.image(n, k, p, letter), dueImage(n, k, p, letter, state));
                    }
                }
            }
        }
    }

    private static void oneArgumentThrowsNothing(State state) {
        int[] numbers = {LEAST, LEAST + 1, -1001, -6, -5, -4, -3, -2, -1, 0, 1, 2, 3, 4, 5, 6, 7, 8, 9,
            999, 1000, 1001, GREATEST - 1, GREATEST};
        for (int i : numbers) {
            CosetTables x = state.make();
            int dueWithN = isWithin(i, 1, 5) ? 0 : BAD_ARG;
            dueCode(state + ": tables(" + i + ")", () -> x.tables(i), dueWithN);
            dueCode(state + ": actions(" + i + ")", () -> x.actions(i), dueWithN);
            dueCode(state + ": even(" + i + ")", () -> x.even(i), dueWithN);
            dueCode(state + ": kinds(" + i + ")", () -> x.kinds(i), dueWithN);
            dueCode(state + ": fixing(" + i + ")", () -> x.fixing(i), dueWithN);
            dueCode(state + ": cyclic(" + i + ")", () -> x.cyclic(i), isWithin(i, 1, 1000) ? 0 : BAD_ARG);
            dueCode(state + ": drop(" + i + ")", () -> x.drop(i), isWithin(i, 0, state.relators - 1) ? 0 : NONE);
            int dueLetter = state == State.FULL ? FULL : 0;
            dueCode(state + ": letter(" + i + ")", () -> x.letter(i), isWithin(i, 0, 3) ? dueLetter : BAD_ARG);
            dueCode(state + ": clear()", x::clear, 0);
            dueCode(state + ": invert()", x::invert, 0);
            dueCode(state + ": still()", x::still, 0);
            dueCode(state + ": word()", x::word, 0);
        }
        dueCode(state + ": relate()", state.make()::relate, state.relators == 4 ? FULL : 0);
    }

    private interface Question {
        int ask();
    }

    /** The answer is this code, or any number from 0 on where no code is due. */
    private static void dueCode(String what, Question question, int due) {
        try {
            int got = question.ask();
            Due.same(what, Math.min(got, 0), due);
        } catch (Throwable thrown) {
            Due.holds(what + " threw " + thrown, false);
        }
    }

    /** In the group of symmetries of a triangle, with ab as the word. */
    private static CosetTables triangle() {
        CosetTables x = Words.with("00", "222", "0202");
        Words.put(x, "02");
        return x;
    }

    /** To make it takes 2 + 3 + 4 letters, 3 times relate, 3 + 1 + 1 times clear, and 2 letters: 19 calls. */
    private static final int TRIANGLE_CALLS = 19;

    private static List<Call> questions() {
        List<Call> calls = new ArrayList<>();
        calls.add(new Call("word()", x -> x.word(), 18));
        calls.add(new Call("tables(3)", x -> x.tables(3), 3));
        calls.add(new Call("image(3, 2, 0, 2)", x -> x.image(3, 2, 0, 2), 2));
        calls.add(new Call("actions(3)", x -> x.actions(3), 10));
        calls.add(new Call("even(2)", x -> x.even(2), 1));
        calls.add(new Call("kinds(3)", x -> x.kinds(3), 1));
        calls.add(new Call("period(3, 0)", x -> x.period(3, 0), 2));
        calls.add(new Call("period(3, 3)", x -> x.period(3, 3), NONE));
        calls.add(new Call("fixing(3)", x -> x.fixing(3), 1));
        calls.add(new Call("still()", x -> x.still(), 0));
        calls.add(new Call("cyclic(6)", x -> x.cyclic(6), 2));
        calls.add(new Call("tables(5)", x -> x.tables(5), 0));
        calls.add(new Call("tables(6)", x -> x.tables(6), BAD_ARG));
        calls.add(new Call("drop(3)", x -> x.drop(3), NONE));
        calls.add(new Call("letter(4)", x -> x.letter(4), BAD_ARG));
        return calls;
    }

    /** The calls that change the word or the relators, each as the first one on the triangle. */
    private static List<Call> changes() {
        List<Call> calls = new ArrayList<>();
        calls.add(new Call("letter(3)", x -> x.letter(3), 3));
        calls.add(new Call("clear()", x -> x.clear(), 2));
        calls.add(new Call("invert()", x -> x.invert(), 2));
        calls.add(new Call("relate()", x -> x.relate(), 4));
        calls.add(new Call("drop(2)", x -> x.drop(2), 2));
        return calls;
    }

    private static void theSameCallAllTheTime() {
        Due.sentence("512 calls: the same question from the first to the last");
        for (Call question : questions()) {
            CosetTables x = triangle();
            for (int call = TRIANGLE_CALLS + 1; call <= CALLS; call++) {
                question.on("call " + call, x);
            }
        }
        CosetTables x = new CosetTables();
        for (int call = 1; call <= CALLS; call++) {
            Due.same("call " + call + ": tables(5)", x.tables(5), 461);
        }
    }

    private static void lettersAllTheTime() {
        Due.sentence("512 calls: letters up to the 9th, and clear");
        CosetTables x = new CosetTables();
        for (int call = 1; call <= CALLS; call++) {
            int step = (call - 1) % 10;
            if (step < 9) {
                Due.same("call " + call + ": letter(3)", x.letter(3), step < 8 ? step + 1 : FULL);
            } else {
                Due.same("call " + call + ": clear()", x.clear(), 8);
            }
        }
    }

    private static void relatorsAllTheTime() {
        Due.sentence("512 calls: relators up to the 5th, and away again");
        CosetTables x = new CosetTables();
        Words.put(x, "2200033");
        for (int call = 9; call <= CALLS; call++) {
            int step = (call - 9) % 10;
            if (step < 5) {
                Due.same("call " + call + ": relate()", x.relate(), step < 4 ? step + 1 : FULL);
            } else {
                Due.same("call " + call + ": drop(0)", x.drop(0), step < 9 ? 8 - step : NONE);
            }
        }
    }

    private static void invertAllTheTime() {
        Due.sentence("512 calls: invert from the first to the last");
        CosetTables x = new CosetTables();
        Words.put(x, "0213300");
        for (int call = 9; call < CALLS; call++) {
            Due.same("call " + call + ": invert()", x.invert(), 7);
        }
        Due.same("call 512: word()", x.word(), Words.number("1122031"));
    }

    private static void refusedAllTheTime() {
        Due.sentence("512 calls: refused from the first to the last");
        for (Call refused : refused(State.NEW)) {
            // A search over 5 points each time would take seconds, and is the same as over 1 point.
            if (refused.due() == NONE && refused.name().contains("(5")) {
                continue;
            }
            CosetTables x = new CosetTables();
            for (int call = 1; call <= CALLS; call++) {
                refused.on("call " + call, x);
            }
        }
    }

    /** Every change is made many times before; the last calls then answer as in an object just made. */
    private static void theLastCall() {
        Due.sentence("512 calls: the last one is answered like the first one");
        List<Call> lastCalls = questions();
        lastCalls.addAll(changes());
        for (Call last : lastCalls) {
            CosetTables x = new CosetTables();
            int calls = 0;
            // Each round puts in and takes away as much as there can be: 28 calls.
            while (calls + 28 + TRIANGLE_CALLS < CALLS) {
                makeAndUnmake(x);
                calls += 28;
            }
            for (; calls + TRIANGLE_CALLS + 1 < CALLS; calls++) {
                x.word();
            }
            relate(x, "00");
            relate(x, "222");
            relate(x, "0202");
            x.clear();
            Words.put(x, "02");
            last.on("call 512", x);
        }
    }

    private static void makeAndUnmake(CosetTables x) {
        for (int i = 0; i < 9; i++) {
            x.letter(i % 4);
        }
        for (int i = 0; i < 5; i++) {
            x.relate();
        }
        x.invert();
        x.tables(5);
        x.still();
        x.cyclic(12);
        x.period(4, 70);
        x.kinds(4);
        x.drop(-1);
        for (int i = 0; i < 5; i++) {
            x.drop(0);
        }
        x.clear();
        x.clear();
    }

    private static void relate(CosetTables x, String word) {
        Words.put(x, word);
        x.relate();
    }
}

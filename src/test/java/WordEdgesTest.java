/** The boundary cases that promises 1 to 7 name, on the word and the relators: one method a sentence. */
public final class WordEdgesTest {
    private static final int BAD_ARG = -1;
    private static final int FULL = -2;
    private static final int NONE = -4;

    public static void main(String[] args) {
        Due.each(
                WordEdgesTest::newHasNoRelators,
                WordEdgesTest::newHasTheEmptyWord,
                WordEdgesTest::newIsNewWhateverCameBefore,
                WordEdgesTest::letterGoesToTheEnd,
                WordEdgesTest::letterInRange,
                WordEdgesTest::letterOutOfRange,
                WordEdgesTest::letterOnAFullWord,
                WordEdgesTest::letterTestsTheRangeFirst,
                WordEdgesTest::clearOfTheEmptyWord,
                WordEdgesTest::clearAnswersTheLengthBefore,
                WordEdgesTest::clearMakesRoom,
                WordEdgesTest::clearLeavesRelators,
                WordEdgesTest::invertOfTheEmptyWord,
                WordEdgesTest::invertOfOneLetter,
                WordEdgesTest::invertOfEveryLength,
                WordEdgesTest::invertOfAFullWord,
                WordEdgesTest::invertLeavesRelators,
                WordEdgesTest::relateCounts,
                WordEdgesTest::relateWhenFull,
                WordEdgesTest::relateOfTheEmptyWord,
                WordEdgesTest::relateOfAFullWord,
                WordEdgesTest::relateOfTheSameWord,
                WordEdgesTest::relatorComesLast,
                WordEdgesTest::relatorStaysTheWord,
                WordEdgesTest::relatorIsApartFromTheWord,
                WordEdgesTest::dropOfNone,
                WordEdgesTest::dropInRange,
                WordEdgesTest::dropOutOfRange,
                WordEdgesTest::dropTakesThisOne,
                WordEdgesTest::dropRenumbers,
                WordEdgesTest::dropMovesLongAndShort,
                WordEdgesTest::dropMakesRoom,
                WordEdgesTest::dropLeavesTheWord,
                WordEdgesTest::wordOfTheEmptyWord,
                WordEdgesTest::wordOfOneLetter,
                WordEdgesTest::wordOfEveryLength,
                WordEdgesTest::wordOfAFullWord);
        Due.end();
    }

    private static String same(String letter, int length) {
        return letter.repeat(length);
    }

    private static void newHasNoRelators() {
        Due.sentence("Promise 1: no relators");
        Due.same("drop(0)", new CosetTables().drop(0), NONE);
        Due.same("relate()", new CosetTables().relate(), 1);
        Due.tables("new", new CosetTables(), 1, 3, 13, 71, 461);
        Due.same("actions(5)", new CosetTables().actions(5), 120 * 120);
        Due.same("cyclic(1000)", new CosetTables().cyclic(1000), 1000 * 1000);
    }

    private static void newHasTheEmptyWord() {
        Due.sentence("Promise 1: the word is empty");
        Due.same("word()", new CosetTables().word(), 1);
        Due.same("clear()", new CosetTables().clear(), 0);
        Due.same("invert()", new CosetTables().invert(), 0);
        Due.same("letter(3)", new CosetTables().letter(3), 1);
        Due.same("still()", new CosetTables().still(), 1);
        Due.same("fixing(5)", new CosetTables().fixing(5), 461);
        Due.same("period(5, 460)", new CosetTables().period(5, 460), 1);
    }

    private static void newIsNewWhateverCameBefore() {
        Due.sentence("Promise 1: a new object, with another one in use");
        CosetTables before = State.FULL.make();
        CosetTables x = new CosetTables();
        State.NEW.stands("made after a full one", x);
        State.FULL.stands("after a new one was made", before);
    }

    private static void letterGoesToTheEnd() {
        Due.sentence("Promise 2: puts a letter at the end of the word");
        String letters = "31200213";
        CosetTables x = new CosetTables();
        for (int length = 1; length <= 8; length++) {
            x.letter(letters.charAt(length - 1) - '0');
            Due.same("word() of " + length, x.word(), Words.number(letters.substring(0, length)));
        }
    }

    private static void letterInRange() {
        Due.sentence("Promise 2: letters 0 to 3; otherwise its length");
        for (int letter = 0; letter <= 3; letter++) {
            CosetTables x = new CosetTables();
            for (int length = 1; length <= 8; length++) {
                Due.same("letter(" + letter + ")", x.letter(letter), length);
                Due.same("word() then", x.word(), Words.number(same("" + letter, length)));
            }
        }
    }

    private static void letterOutOfRange() {
        Due.sentence("Promise 2: letter not 0 to 3 answers BAD_ARG");
        String[] words = {"", "2", "3210321"};
        for (String word : words) {
            for (int letter : Outside.of(0, 3)) {
                CosetTables x = new CosetTables();
                Words.put(x, word);
                Due.same("letter(" + letter + ") behind '" + word + "'", x.letter(letter), BAD_ARG);
                Due.same("word() then", x.word(), Words.number(word));
                Due.same("letter(1) then", x.letter(1), word.length() + 1);
            }
        }
    }

    private static void letterOnAFullWord() {
        Due.sentence("Promise 2: the word has 8 letters answers FULL");
        for (int letter = 0; letter <= 3; letter++) {
            CosetTables x = new CosetTables();
            Words.put(x, "3210321");
            Due.same("letter(" + letter + ") as the 8th", x.letter(letter), 8);
            Due.same("letter(" + letter + ") as the 9th", x.letter(letter), FULL);
            Due.same("letter(" + letter + ") as the 9th again", x.letter(letter), FULL);
            Due.same("word() then", x.word(), Words.number("3210321" + letter));
        }
    }

    private static void letterTestsTheRangeFirst() {
        Due.sentence("Promise 2: BAD_ARG is tested before FULL");
        for (int letter : Outside.of(0, 3)) {
            CosetTables x = new CosetTables();
            Words.put(x, "32103210");
            Due.same("letter(" + letter + ") on 8 letters", x.letter(letter), BAD_ARG);
            Due.same("word() then", x.word(), Words.number("32103210"));
        }
    }

    private static void clearOfTheEmptyWord() {
        Due.sentence("Promise 3: clear of the empty word");
        CosetTables x = new CosetTables();
        Due.same("clear()", x.clear(), 0);
        Due.same("clear() again", x.clear(), 0);
        Due.same("word() then", x.word(), 1);
    }

    private static void clearAnswersTheLengthBefore() {
        Due.sentence("Promise 3: the word becomes empty; answers its length before");
        for (int length = 1; length <= 8; length++) {
            CosetTables x = new CosetTables();
            Words.put(x, same("3", length));
            Due.same("clear() of " + length, x.clear(), length);
            Due.same("word() then", x.word(), 1);
            Due.same("clear() then", x.clear(), 0);
        }
    }

    private static void clearMakesRoom() {
        Due.sentence("Promise 3: a word that was full takes 8 letters again");
        CosetTables x = new CosetTables();
        Words.put(x, "33333333");
        x.letter(3);
        Due.same("clear()", x.clear(), 8);
        for (int length = 1; length <= 8; length++) {
            Due.same("letter(0)", x.letter(0), length);
        }
        Due.same("letter(0) as the 9th", x.letter(0), FULL);
        Due.same("word()", x.word(), Words.number("00000000"));
    }

    private static void clearLeavesRelators() {
        Due.sentence("Promise 3: clear leaves the relators");
        CosetTables x = State.FULL.make();
        x.clear();
        Words.put(x, "01230123");
        State.FULL.stands("cleared and put again", x);
        x = State.EMPTIES.make();
        x.clear();
        State.EMPTIES.stands("cleared", x);
    }

    private static void invertOfTheEmptyWord() {
        Due.sentence("Promise 4: invert of the empty word");
        CosetTables x = new CosetTables();
        Due.same("invert()", x.invert(), 0);
        Due.same("word() then", x.word(), 1);
        Due.same("letter(2) then", x.letter(2), 1);
        Due.same("word() then", x.word(), 6);
        Words.put(x, "33333333");
        x.clear();
        Due.same("invert() after clear", x.invert(), 0);
        Due.same("word() then", x.word(), 1);
    }

    private static void invertOfOneLetter() {
        Due.sentence("Promise 4: each the inverse of what it was");
        String inverses = "1032";
        for (int letter = 0; letter <= 3; letter++) {
            CosetTables x = new CosetTables();
            x.letter(letter);
            Due.same("invert() of " + letter, x.invert(), 1);
            Due.same("word() then", x.word(), Words.number(inverses.substring(letter, letter + 1)));
        }
    }

    private static void invertOfEveryLength() {
        Due.sentence("Promise 4: its letters in the other order; answers its length");
        String letters = "02213300";
        String inverse = "11220331";
        for (int length = 1; length <= 8; length++) {
            CosetTables x = new CosetTables();
            Words.put(x, letters.substring(0, length));
            Due.same("invert() of " + length, x.invert(), length);
            Due.same("word() then", x.word(), Words.number(inverse.substring(8 - length)));
            Due.same("invert() of " + length + " again", x.invert(), length);
            Due.same("word() then", x.word(), Words.number(letters.substring(0, length)));
        }
    }

    private static void invertOfAFullWord() {
        Due.sentence("Promise 4: a full word stays full");
        CosetTables x = new CosetTables();
        Words.put(x, "00000000");
        Due.same("invert()", x.invert(), 8);
        Due.same("word()", x.word(), Words.number("11111111"));
        Due.same("letter(0) as the 9th", x.letter(0), FULL);
        Due.same("word()", x.word(), Words.number("11111111"));
        Words.put(x, "0000000");
        x.invert();
        Due.same("letter(0) as the 8th", x.letter(0), 8);
    }

    private static void invertLeavesRelators() {
        Due.sentence("Promise 4: invert leaves the relators");
        CosetTables x = State.FULL.make();
        Due.same("invert()", x.invert(), 8);
        Due.same("word()", x.word(), Words.number("23012301"));
        Words.put(x, "01230123");
        State.FULL.stands("inverted and put again", x);
    }

    private static void relateCounts() {
        Due.sentence("Promise 5: otherwise how many there are");
        CosetTables x = new CosetTables();
        for (int count = 1; count <= 4; count++) {
            Words.put(x, same("0", count));
            Due.same("relate()", x.relate(), count);
        }
    }

    private static void relateWhenFull() {
        Due.sentence("Promise 5: FULL if there are 4 relators");
        String[] words = {"", "0", "0000", "01230123"};
        for (String word : words) {
            CosetTables x = State.FULL.make();
            Words.put(x, word);
            Due.same("relate() of '" + word + "' as the 5th", x.relate(), FULL);
            Due.same("relate() of '" + word + "' again", x.relate(), FULL);
            Due.same("word() then", x.word(), Words.number(word));
            Words.put(x, "01230123");
            State.FULL.stands("relate() of '" + word + "' refused", x);
        }
        CosetTables x = State.EMPTIES.make();
        Due.same("relate() behind four empty ones", x.relate(), FULL);
        State.EMPTIES.stands("relate() refused", x);
    }

    private static void relateOfTheEmptyWord() {
        Due.sentence("Promise 5: the empty word as a relator");
        CosetTables x = new CosetTables();
        for (int count = 1; count <= 4; count++) {
            Due.same("relate()", x.relate(), count);
            Due.same("word() then", x.word(), 1);
            Due.tables(count + " empty relators", x, 1, 3, 13, 71, 461);
            Due.same("actions(5)", x.actions(5), 120 * 120);
            Due.same("cyclic(60)", x.cyclic(60), 60 * 60);
            Due.same("still() of the empty word", x.still(), 1);
        }
        x = Words.with("", "00", "", "2");
        Due.tables("aa, b between empty ones", x, 1, 1, 0, 0, 0);
    }

    private static void relateOfAFullWord() {
        Due.sentence("Promise 5: a word of 8 letters as a relator");
        Due.same("a7: cyclic(56)", Words.with("0000000").cyclic(56), 7 * 56);
        Due.same("a8: cyclic(56)", Words.with("00000000").cyclic(56), 8 * 56);
        Due.tables("a8, b", Words.with("00000000", "2"), 1, 1, 0, 1, 0);
        // With a as a relator too, y is 0 for the one letter b, wherever it stands among the eight.
        for (int place = 0; place < 8; place++) {
            String word = same("0", place) + "2" + same("0", 7 - place);
            Due.same(word + ", a: cyclic(30)", Words.with(word, "0").cyclic(30), 1);
        }
        for (int k = 0; k < 4; k++) {
            String[] relators = {"", "", "", ""};
            relators[k] = "00000000";
            Due.same("a8 as relator " + k + ": cyclic(56)", Words.with(relators).cyclic(56), 8 * 56);
        }
    }

    private static void relateOfTheSameWord() {
        Due.sentence("Promise 5: the word that is a relator already becomes one more");
        CosetTables x = new CosetTables();
        Words.put(x, "000");
        for (int count = 1; count <= 4; count++) {
            Due.same("relate()", x.relate(), count);
        }
        Due.same("relate() as the 5th", x.relate(), FULL);
        for (int left = 3; left >= 0; left--) {
            Due.same("cyclic(9)", x.cyclic(9), 3 * 9);
            Due.same("drop(0)", x.drop(0), left);
        }
        Due.same("cyclic(9) with none", x.cyclic(9), 9 * 9);
    }

    private static void relatorComesLast() {
        Due.sentence("Promise 5: the last one");
        CosetTables x = Words.with("0000");
        Words.put(x, "222222");
        Due.same("relate()", x.relate(), 2);
        Due.same("drop(1)", x.drop(1), 1);
        Due.same("cyclic(12) with a4", x.cyclic(12), 4 * 12);
        Due.same("relate()", x.relate(), 2);
        Due.same("drop(0)", x.drop(0), 1);
        Due.same("cyclic(12) with b6", x.cyclic(12), 6 * 12);
    }

    private static void relatorStaysTheWord() {
        Due.sentence("Promise 5: and stays the word");
        String[] words = {"", "3", "0213", "31200213"};
        for (String word : words) {
            CosetTables x = new CosetTables();
            Words.put(x, word);
            x.relate();
            Due.same("word() of '" + word + "'", x.word(), Words.number(word));
            Due.same("clear() of '" + word + "'", x.clear(), word.length());
        }
    }

    private static void relatorIsApartFromTheWord() {
        Due.sentence("Promise 5: what is done to the word later leaves the relator");
        CosetTables x = new CosetTables();
        Words.put(x, "000");
        x.relate();
        x.letter(0);
        Due.same("cyclic(12) after a letter", x.cyclic(12), 3 * 12);
        x.clear();
        Due.same("cyclic(12) after clear", x.cyclic(12), 3 * 12);
        Words.put(x, "22222222");
        Due.same("cyclic(12) after another word", x.cyclic(12), 3 * 12);
    }

    private static void dropOfNone() {
        Due.sentence("Promise 6: NONE if there is no relator at all");
        for (int k = -4; k <= 4; k++) {
            Due.same("drop(" + k + ")", new CosetTables().drop(k), NONE);
        }
        for (int k : Outside.of(0, 0)) {
            Due.same("drop(" + k + ")", new CosetTables().drop(k), NONE);
        }
        CosetTables x = Words.with("0");
        x.drop(0);
        Due.same("drop(0) after the last one went", x.drop(0), NONE);
        Due.same("relate() then", x.relate(), 1);
    }

    private static CosetTables withCount(int count) {
        CosetTables x = new CosetTables();
        Words.put(x, "01");
        for (int i = 0; i < count; i++) {
            x.relate();
        }
        return x;
    }

    private static void dropInRange() {
        Due.sentence("Promise 6: relators are numbered from 0 on; otherwise how many are left");
        for (int count = 1; count <= 4; count++) {
            for (int k = 0; k < count; k++) {
                Due.same("drop(" + k + ") of " + count, withCount(count).drop(k), count - 1);
            }
        }
    }

    private static void dropOutOfRange() {
        Due.sentence("Promise 6: NONE if there is no relator k");
        for (int count = 1; count <= 4; count++) {
            for (int k : Outside.of(0, count - 1)) {
                CosetTables x = withCount(count);
                Due.same("drop(" + k + ") of " + count, x.drop(k), NONE);
                Due.same("drop(" + k + ") of " + count + " again", x.drop(k), NONE);
                Due.same("drop(0) then", x.drop(0), count - 1);
            }
        }
    }

    private static void dropTakesThisOne() {
        Due.sentence("Promise 6: takes relator k away");
        // Of a4, b5, a6 and b8: what cyclic(120) is without each of them.
        int[] want = {6, 2 * 8, 4, 2 * 5};
        for (int k = 0; k < 4; k++) {
            CosetTables x = State.FULL.make();
            Due.same("drop(" + k + ")", x.drop(k), 3);
            Due.same("cyclic(120) then", x.cyclic(120), want[k]);
        }
    }

    private static void dropRenumbers() {
        Due.sentence("Promise 6: those that are left are numbered from 0 on");
        CosetTables x = State.FULL.make();
        Due.same("drop(1) of a4, b5, a6, b8", x.drop(1), 3);
        Due.same("drop(3) of a4, a6, b8", x.drop(3), NONE);
        Due.same("drop(1) of a4, a6, b8", x.drop(1), 2);
        Due.same("cyclic(120) with a4, b8", x.cyclic(120), 4 * 8);
        Due.same("drop(1) of a4, b8", x.drop(1), 1);
        Due.same("cyclic(120) with a4", x.cyclic(120), 4 * 120);
        Due.same("drop(1) of a4", x.drop(1), NONE);
        Due.same("drop(0) of a4", x.drop(0), 0);
        Due.same("cyclic(120) with none", x.cyclic(120), 120 * 120);
    }

    private static void dropMovesLongAndShort() {
        Due.sentence("Promise 6: 8 letters come where none were, and none where 8 were");
        CosetTables x = Words.with("", "00000000", "", "22222222");
        Due.same("drop(0)", x.drop(0), 3);
        Due.same("cyclic(24) with a8, '', b8", x.cyclic(24), 8 * 8);
        Due.same("drop(0)", x.drop(0), 2);
        Due.same("cyclic(24) with '', b8", x.cyclic(24), 24 * 8);
        Due.same("drop(0)", x.drop(0), 1);
        Due.same("cyclic(24) with b8", x.cyclic(24), 24 * 8);
        Due.tables("b8 and a", relatedTo(x, "0"), 1, 1, 0, 1, 0);
    }

    private static CosetTables relatedTo(CosetTables x, String word) {
        Words.put(x, word);
        x.relate();
        return x;
    }

    private static void dropMakesRoom() {
        Due.sentence("Promise 6: four relators less one take one more");
        for (int k = 0; k < 4; k++) {
            CosetTables x = State.FULL.make();
            x.drop(k);
            Words.put(x, "");
            Due.same("relate() after drop(" + k + ")", x.relate(), 4);
            Due.same("relate() as the 5th", x.relate(), FULL);
        }
    }

    private static void dropLeavesTheWord() {
        Due.sentence("Promise 6: drop leaves the word");
        CosetTables x = State.FULL.make();
        for (int left = 3; left >= 0; left--) {
            x.drop(left);
            Due.same("word() with " + left + " left", x.word(), Words.number("01230123"));
        }
        x = State.EMPTIES.make();
        x.drop(0);
        Due.same("word() of the empty word", x.word(), 1);
    }

    private static void wordOfTheEmptyWord() {
        Due.sentence("Promise 7: 1 for the empty word");
        CosetTables x = new CosetTables();
        Due.same("word()", x.word(), 1);
        Words.put(x, "00000000");
        x.clear();
        Due.same("word() after clear", x.word(), 1);
    }

    private static void wordOfOneLetter() {
        Due.sentence("Promise 7: a word without its last letter may be empty");
        for (int letter = 0; letter <= 3; letter++) {
            CosetTables x = new CosetTables();
            x.letter(letter);
            Due.same("word() of " + letter, x.word(), 4 + letter);
        }
    }

    private static void wordOfEveryLength() {
        Due.sentence("Promise 7: 4 times the number without its last letter, plus that letter");
        CosetTables zeros = new CosetTables();
        CosetTables threes = new CosetTables();
        int power = 1;
        for (int length = 1; length <= 8; length++) {
            power *= 4;
            zeros.letter(0);
            threes.letter(3);
            Due.same("word() of 0, " + length + " times", zeros.word(), power);
            Due.same("word() of 3, " + length + " times", threes.word(), 2 * power - 1);
        }
    }

    private static void wordOfAFullWord() {
        Due.sentence("Promise 7: the number of 8 letters");
        CosetTables x = new CosetTables();
        Words.put(x, "32103210");
        Due.same("word()", x.word(), 65536 + 58596);
        Due.same("word() again", x.word(), 65536 + 58596);
    }
}

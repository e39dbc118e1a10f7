/** Objects made ready for a test. Words are written with a digit for each letter. */
final class Words {
    private Words() {
    }

    /** Puts the word anew. */
    static void put(CosetTables x, String letters) {
        x.clear();
        for (int i = 0; i < letters.length(); i++) {
            x.letter(letters.charAt(i) - '0');
        }
    }

    /** A new object with these relators and the empty word. */
    static CosetTables with(String... relators) {
        CosetTables x = new CosetTables();
        for (String relator : relators) {
            put(x, relator);
            x.relate();
        }
        x.clear();
        return x;
    }

    /** The word's number as the document tells it, from its letters. */
    static int number(String letters) {
        return Integer.parseInt("1" + letters, 4);
    }
}

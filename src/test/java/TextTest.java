/** Promises 2 and 3: the text that is typed. */
public final class TextTest {
    private static final Check CHECK = new Check();

    public static void main(String[] args) {
        typeTellsTheLength();
        fullText();
        anyCharacter();
        clearTextTellsTheLengthThatItHad();
        textIsNotInTheHistory();
        CHECK.finish();
    }

    private static void typeTellsTheLength() {
        EdgeVerses verses = new EdgeVerses();
        for (int length = 1; length <= 40; length++) {
            CHECK.due("type, " + length + ". character", length, verses.type('a'));
            CHECK.due("count(11)", length, verses.count(11));
        }
    }

    private static void fullText() {
        EdgeVerses verses = Verses.typed(new EdgeVerses(), "x".repeat(40));
        CHECK.due("type on a full text", EdgeVerses.FULL, verses.type('a'));
        CHECK.due("full: count(11)", 40, verses.count(11));
        CHECK.due("full: clearText()", 40, verses.clearText());
        CHECK.due("type on an emptied text", 1, verses.type('a'));
    }

    private static void anyCharacter() {
        char[] characters = {0, ' ', '\'', 'A', 127, 128, 255, 256, 'a' + 256, 0xd800, 0xffff};
        EdgeVerses verses = new EdgeVerses();
        for (int index = 0; index < characters.length; index++) {
            CHECK.due("type " + (int) characters[index], index + 1, verses.type(characters[index]));
        }
        for (char character : characters) {
            verses.clearText();
            verses.type(character);
            int due = character == '\'' ? -101 : -100;
            CHECK.due("addWord of " + (int) character, due, verses.addWord());
        }
    }

    private static void clearTextTellsTheLengthThatItHad() {
        EdgeVerses verses = Verses.typed(new EdgeVerses(), "abc");
        CHECK.due("clearText()", 3, verses.clearText());
        CHECK.due("clearText() again", 0, verses.clearText());
        CHECK.due("cleared: count(11)", 0, verses.count(11));
        CHECK.due("cleared: addWord()", -100, verses.addWord());
    }

    private static void textIsNotInTheHistory() {
        EdgeVerses verses = Verses.typed(new EdgeVerses(), "ab");
        CHECK.due("typed: count(10)", 0, verses.count(10));
        verses.addWord();
        Verses.typed(verses, "xyz");
        CHECK.due("undo()", 0, verses.undo());
        CHECK.due("undone: count(11)", 3, verses.count(11));
        verses.keep(0);
        Verses.typed(verses, "a");
        verses.restore(0);
        CHECK.due("restored: count(11)", 1, verses.count(11));
        verses.clearText();
        CHECK.due("cleared: count(10)", 1, verses.count(10));
    }
}

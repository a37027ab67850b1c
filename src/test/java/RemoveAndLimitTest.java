/** Promises 5 and 6: words that are removed, and limits that are set. */
public final class RemoveAndLimitTest {
    private static final Check CHECK = new Check();

    public static void main(String[] args) {
        removedWordsAreUnknown();
        numbersBehindBecomeLess();
        linesThatUseItBecomeEmpty();
        removeWordIsAnAct();
        setLimitTellsThePreviousOne();
        orderOfTheErrors();
        limitsAndLinesThatUseTheWord();
        setLimitIsAnAct();
        CHECK.finish();
    }

    private static void removedWordsAreUnknown() {
        EdgeVerses verses = Verses.withWords("a", "b");
        int[] unknown = {-1, 2, 40, Integer.MIN_VALUE, Integer.MAX_VALUE};
        for (int word : unknown) {
            CHECK.due("removeWord(" + word + ")", EdgeVerses.UNKNOWN, verses.removeWord(word));
        }
        CHECK.due("removeWord(1)", 0, verses.removeWord(1));
        CHECK.due("removeWord(1) again", EdgeVerses.UNKNOWN, verses.removeWord(1));
        CHECK.due("removeWord(0)", 0, verses.removeWord(0));
        CHECK.due("removeWord(0) of none", EdgeVerses.UNKNOWN, verses.removeWord(0));
    }

    private static void numbersBehindBecomeLess() {
        EdgeVerses verses = Verses.withWords("a", "'b-b*2", "c-'c*3", "'d-'d*4");
        CHECK.due("removeWord(1)", 0, verses.removeWord(1));
        CHECK.due("words", 3, verses.count(0));
        CHECK.due("word 0", "a", Verses.letters(verses, 0));
        CHECK.due("word 1", "cc", Verses.letters(verses, 1));
        CHECK.due("word 2", "dd", Verses.letters(verses, 2));
        CHECK.due("syllables of word 1", 2, verses.word(1, 1));
        CHECK.due("strong ones of word 1", 2, verses.word(1, 2));
        CHECK.due("limit of word 2", 4, verses.word(2, 3));
        CHECK.due("word 3", EdgeVerses.UNKNOWN, verses.word(3, 0));
        allPropertiesMoveUp();
    }

    private static void allPropertiesMoveUp() {
        EdgeVerses verses = Verses.withWords("a", "b-'c-d*2", "'wxyz*9", "p-'q-'r-st*4");
        int[][] due = {{3, 3, 2, 2, 0, 'b', 'd'}, {4, 1, 1, 9, 0, 'w', 'z'}, {5, 4, 6, 4, 0, 'p', 't'}};
        verses.removeWord(0);
        for (int word = 0; word < due.length; word++) {
            for (int what = 0; what < 7; what++) {
                String call = "word(" + word + ", " + what + ") that moved up";
                CHECK.due(call, due[word][what], verses.word(word, what));
            }
        }
    }

    /** Three lines of two beats: "a a", "b a" and "cc". */
    private static EdgeVerses threeLines() {
        EdgeVerses verses = Verses.withWords("x", "a*9", "b", "'c-c", "'d-d");
        Verses.setMetre(verses, "'.");
        Verses.setEdges(verses, "abc/aac");
        verses.make();
        return verses;
    }

    private static void linesThatUseItBecomeEmpty() {
        EdgeVerses verses = threeLines();
        CHECK.due("poem", "a a/b a/cc/", Verses.poem(verses));
        CHECK.due("remove an unused word", 0, verses.removeWord(0));
        CHECK.due("poem then", "a a/b a/cc/", Verses.poem(verses));
        CHECK.due("wordAt(2, 0)", 2, verses.wordAt(2, 0));
        CHECK.due("remove a word of two lines", 2, verses.removeWord(0));
        CHECK.due("poem then", "//cc/", Verses.poem(verses));
        CHECK.due("wordAt(2, 0)", 1, verses.wordAt(2, 0));
        CHECK.due("lines that are made", 1, verses.count(2));
        CHECK.due("remove a word of the last line", 1, verses.removeWord(1));
        CHECK.due("poem then", "///", Verses.poem(verses));
        CHECK.due("a word twice in one line", 1, Verses.withWords("a").make());
    }

    private static void removeWordIsAnAct() {
        EdgeVerses verses = threeLines();
        String before = Verses.told(verses);
        verses.removeWord(1);
        verses.undo();
        CHECK.due("undone", before, Verses.told(verses));
        int states = verses.count(10);
        verses.removeWord(5);
        CHECK.due("history after UNKNOWN", states, verses.count(10));
        CHECK.due("told after UNKNOWN", before, Verses.told(verses));
    }

    private static void setLimitTellsThePreviousOne() {
        EdgeVerses verses = Verses.withWords("a", "b*5");
        CHECK.due("setLimit(0, 9)", 1, verses.setLimit(0, 9));
        CHECK.due("setLimit(0, 1)", 9, verses.setLimit(0, 1));
        CHECK.due("setLimit(1, 2)", 5, verses.setLimit(1, 2));
        CHECK.due("limit of 0", 1, verses.word(0, 3));
        CHECK.due("limit of 1", 2, verses.word(1, 3));
        CHECK.due("setLimit(1, 2) again", EdgeVerses.NONE, verses.setLimit(1, 2));
    }

    private static void orderOfTheErrors() {
        EdgeVerses verses = Verses.withWords("a");
        CHECK.due("setLimit(-1, 1)", EdgeVerses.UNKNOWN, verses.setLimit(-1, 1));
        CHECK.due("setLimit(1, 1)", EdgeVerses.UNKNOWN, verses.setLimit(1, 1));
        CHECK.due("setLimit(1, 0)", EdgeVerses.UNKNOWN, verses.setLimit(1, 0));
        int[] bad = {0, 10, -1, Integer.MIN_VALUE, Integer.MAX_VALUE};
        for (int limit : bad) {
            CHECK.due("setLimit(0, " + limit + ")", EdgeVerses.BAD_VALUE, verses.setLimit(0, limit));
        }
        CHECK.due("limit after BAD_VALUE", 1, verses.word(0, 3));
    }

    private static void limitsAndLinesThatUseTheWord() {
        EdgeVerses verses = threeLines();
        CHECK.due("lines that use a", 2, verses.word(1, 4));
        CHECK.due("fewer than the lines", EdgeVerses.NOT_POSSIBLE, verses.setLimit(1, 1));
        CHECK.due("limit then", 9, verses.word(1, 3));
        CHECK.due("as many as the lines", 9, verses.setLimit(1, 2));
        CHECK.due("still fewer", EdgeVerses.NOT_POSSIBLE, verses.setLimit(1, 1));
        CHECK.due("so already", EdgeVerses.NONE, verses.setLimit(1, 2));
        CHECK.due("used up", EdgeVerses.NONE, verses.setLimit(2, 1));
        verses.clearLine(1);
        CHECK.due("one line less", 2, verses.setLimit(1, 1));
    }

    private static void setLimitIsAnAct() {
        EdgeVerses verses = Verses.withWords("a", "b");
        verses.setLimit(0, 3);
        CHECK.due("history", 3, verses.count(10));
        verses.setLimit(0, 3);
        verses.setLimit(0, 0);
        verses.setLimit(2, 1);
        CHECK.due("history after NONE and errors", 3, verses.count(10));
        verses.undo();
        CHECK.due("limit when it is undone", 1, verses.word(0, 3));
        EdgeVerses used = threeLines();
        int states = used.count(10);
        used.undo();
        used.make();
        used.setLimit(1, 1);
        CHECK.due("history after NOT_POSSIBLE", states, used.count(10));
    }
}

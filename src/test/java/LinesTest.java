/** Promises 9, 10 and 11: lines that are made and cleared, and the order of the search. */
public final class LinesTest {
    private static final Check CHECK = new Check();

    public static void main(String[] args) {
        rowsHaveTheMetre();
        bothLettersAreRight();
        fewerBendsFirst();
        fewerWordsThen();
        lowerNumbersThen();
        longestAndShortestRows();
        limitsBindTheSearch();
        makeLineAnswers();
        makeLineIsAnAct();
        makeGoesFromTheFirstLineOn();
        makeLeavesMadeLines();
        makeIsAnAct();
        clearLineAnswers();
        clearLineIsAnAct();
        CHECK.finish();
    }

    /** The line that is found first for one place; empty if there is none. */
    private static String found(String metre, String edges, String... words) {
        EdgeVerses verses = Verses.withWords(words);
        Verses.setMetre(verses, metre);
        Verses.setEdges(verses, edges);
        int answer = verses.makeLine(0);
        String poem = Verses.poem(verses);
        String row = poem.substring(0, poem.indexOf('/'));
        int due = row.isEmpty() ? EdgeVerses.NONE : row.split(" ").length;
        CHECK.due("makeLine(0) for " + row, due, answer);
        return row;
    }

    private static void rowsHaveTheMetre() {
        CHECK.due("one word", "aba", found("'.'", "a/a", "'a-b-'a"));
        CHECK.due("too few syllables", "", found("'.'.", "a/a", "'a-b-'a"));
        CHECK.due("too many syllables", "", found("'.", "a/a", "'a-b-'a"));
        CHECK.due("strong on weak", "", found("'..", "a/a", "'a-b-'a"));
        CHECK.due("weak on strong", "", found("''.", "a/b", "'a-b", "b"));
        CHECK.due("it fits behind", "c ab", found("'.'", "c/b", "a-'b", "c"));
        CHECK.due("it fits ahead", "ab c", found(".''", "a/c", "a-'b", "c"));
        CHECK.due("one syllable on strong", "a b", found("''", "a/b", "a", "b"));
        CHECK.due("one syllable on weak", "a b", found("..", "a/b", "'a", "'b"));
        CHECK.due("four syllables", "abcd", found("..''", "a/d", "a-b-'c-'d"));
        CHECK.due("on the last beats of twelve", "x x x x x x x x abcd",
                found("........'.''", "x/d", "'a-b-'c-'d", "x"));
    }

    private static void bothLettersAreRight() {
        CHECK.due("first wrong", "", found("..", "a/b", "c-b"));
        CHECK.due("last wrong", "", found("..", "a/b", "a-c"));
        CHECK.due("both wrong", "", found("..", "a/b", "c-d"));
        CHECK.due("both right", "ab", found("..", "a/b", "c-d", "a-c", "c-b", "a-b"));
        CHECK.due("between they are free", "ax yz xb", found("...", "a/b", "yz", "ax", "xb"));
        CHECK.due("first and last", "ax xb", found("..", "a/b", "xx", "ax", "xb"));
        CHECK.due("the letters of the other line", "", found("..", "ab/cd", "b-d", "a-d", "b-c"));
    }

    private static void fewerBendsFirst() {
        CHECK.due("no bend, more words", "ax a b",
                found("'...", "a/b", "a", "x-y-b", "'a-x", "y", "b"));
        CHECK.due("no bend, higher numbers", "ca ab", found("'.", "c/b", "c", "'b", "'ca", "ab"));
        CHECK.due("one bend ahead of two", "ax b", found("''", "a/b", "a", "b", "'ax"));
        CHECK.due("no bend ahead of two", "ay xx yb",
                found("'..'", "a/b", "a", "ax", "xb", "'ay", "x-x", "'yb"));
        CHECK.due("a weak one on a strong beat is a bend", "ab ab", found("''", "a/b", "a", "b", "'ab"));
        CHECK.due("a strong one on a weak beat is a bend", "ab ab", found("..", "a/b", "'a", "'b", "ab"));
    }

    private static void fewerWordsThen() {
        CHECK.due("one word", "axb", found("...", "a/b", "a", "b", "a-x", "a-x-b"));
        CHECK.due("two words", "a xb", found("...", "a/b", "a", "b", "x", "x-b"));
        CHECK.due("two words, behind in number", "ax b", found("...", "a/b", "a", "b", "x", "a-x"));
        CHECK.due("fewer words, though the first has a higher number", "azzb",
                found("....", "a/b", "a", "b", "ab", "a-b", "a-z-z-b"));
    }

    private static void lowerNumbersThen() {
        CHECK.due("first word", "ay b", found("..", "a/b", "ay", "b", "ax"));
        CHECK.due("second word", "a xb", found("..", "a/b", "xb", "a", "b"));
        CHECK.due("first ahead of second", "az zb", found("..", "a/b", "az", "ay", "zb", "b"));
        CHECK.due("middle word", "a c b", found("...", "a/b", "c", "a", "b"));
        CHECK.due("words again in one line", "a a a", found("...", "a/a", "a"));
        CHECK.due("longer word first", "ac b", found("...", "a/b", "a-c", "a", "b", "y-b"));
        CHECK.due("shorter word first", "a yb", found("...", "a/b", "a", "a-c", "b", "y-b"));
    }

    private static void longestAndShortestRows() {
        CHECK.due("twelve words", "a" + " a".repeat(11), found("'.'.'.'.'.'.", "a/a", "a"));
        CHECK.due("twelve words, six bends", "a" + " a".repeat(11),
                found("''''''......", "a/a", "'a"));
        CHECK.due("three words of four", "abcd abcd abcd", found("............", "a/d", "a-b-c-d"));
        CHECK.due("no words", "", found("..", "a/a"));
    }

    private static void limitsBindTheSearch() {
        EdgeVerses verses = Verses.withWords("a", "b*2", "c");
        Verses.setMetre(verses, "..");
        Verses.setEdges(verses, "abb/bbc");
        CHECK.due("line 0", 2, verses.makeLine(0));
        CHECK.due("line 0 again, what it uses is free for it", 2, verses.makeLine(0));
        CHECK.due("line 1", 2, verses.makeLine(1));
        CHECK.due("poem", "a b/b b//", Verses.poem(verses));
        CHECK.due("line 2, b is used up", EdgeVerses.NONE, verses.makeLine(2));
        CHECK.due("line 1 again", 2, verses.makeLine(1));
        verses.setLimit(1, 3);
        CHECK.due("line 2 with a higher limit", 2, verses.makeLine(2));
        CHECK.due("poem", "a b/b b/b c/", Verses.poem(verses));
    }

    private static void makeLineAnswers() {
        EdgeVerses verses = Verses.withWords("a");
        Verses.setEdges(verses, "aab/aab");
        int[] unknown = {-1, 3, 8, Integer.MIN_VALUE, Integer.MAX_VALUE};
        for (int line : unknown) {
            CHECK.due("makeLine(" + line + ")", EdgeVerses.UNKNOWN, verses.makeLine(line));
        }
        CHECK.due("makeLine(1)", 4, verses.makeLine(1));
        CHECK.due("makeLine(0), a is used up", EdgeVerses.NONE, verses.makeLine(0));
        CHECK.due("makeLine(2)", EdgeVerses.NONE, verses.makeLine(2));
        CHECK.due("poem", "/a a a a//", Verses.poem(verses));
    }

    private static void makeLineIsAnAct() {
        EdgeVerses verses = Verses.withWords("a");
        CHECK.due("makeLine(0)", 4, verses.makeLine(0));
        CHECK.due("history", 2, verses.count(10));
        CHECK.due("makeLine(0), the same words", 4, verses.makeLine(0));
        CHECK.due("history then", 3, verses.count(10));
        verses.makeLine(1);
        CHECK.due("history after UNKNOWN", 3, verses.count(10));
        verses.undo();
        CHECK.due("undone", "a a a a/", Verses.poem(verses));
        verses.undo();
        CHECK.due("undone again", "/", Verses.poem(verses));
        Verses.setEdges(verses, "b/b");
        int states = verses.count(10);
        verses.makeLine(0);
        CHECK.due("history after NONE", states, verses.count(10));
        betterWordsReplaceALine();
    }

    private static void betterWordsReplaceALine() {
        EdgeVerses verses = Verses.withWords("a");
        verses.makeLine(0);
        Verses.addWord(verses, "a-'b-c-'a");
        CHECK.due("makeLine(0) with a new word", 1, verses.makeLine(0));
        CHECK.due("poem", "abca/", Verses.poem(verses));
        CHECK.due("lines that use a", 0, verses.word(0, 4));
    }

    private static void makeGoesFromTheFirstLineOn() {
        EdgeVerses verses = Verses.withWords("a", "b", "a-b*2", "b-a");
        Verses.setMetre(verses, "..");
        Verses.setEdges(verses, "aaaba/bbbaa");
        CHECK.due("make()", 4, verses.make());
        CHECK.due("poem", "ab/ab/a b/ba//", Verses.poem(verses));
    }

    private static void makeLeavesMadeLines() {
        EdgeVerses verses = Verses.withWords("a*3");
        Verses.setMetre(verses, "..");
        Verses.setEdges(verses, "aaba/aaaa");
        verses.makeLine(1);
        Verses.addWord(verses, "a-a*9");
        CHECK.due("make()", 2, verses.make());
        CHECK.due("poem", "aa/a a//aa/", Verses.poem(verses));
        CHECK.due("make() again", EdgeVerses.NONE, verses.make());
        Verses.addWord(verses, "b-a");
        CHECK.due("make() with a word for the empty line", 1, verses.make());
        CHECK.due("poem", "aa/a a/ba/aa/", Verses.poem(verses));
        CHECK.due("make() of a poem that is made", EdgeVerses.NONE, verses.make());
    }

    private static void makeIsAnAct() {
        EdgeVerses verses = Verses.withWords("a*9");
        Verses.setEdges(verses, "aaa/aaa");
        int states = verses.count(10);
        CHECK.due("make()", 3, verses.make());
        CHECK.due("history", states + 1, verses.count(10));
        CHECK.due("make() again", EdgeVerses.NONE, verses.make());
        CHECK.due("history after NONE", states + 1, verses.count(10));
        verses.undo();
        CHECK.due("undone", "///", Verses.poem(verses));
    }

    private static void clearLineAnswers() {
        EdgeVerses verses = Verses.withWords("a*2", "c-'d-d-'c");
        Verses.setEdges(verses, "aca/aca");
        verses.make();
        int[] unknown = {-1, 3, 8, Integer.MIN_VALUE, Integer.MAX_VALUE};
        for (int line : unknown) {
            CHECK.due("clearLine(" + line + ")", EdgeVerses.UNKNOWN, verses.clearLine(line));
        }
        CHECK.due("clearLine(1)", 1, verses.clearLine(1));
        CHECK.due("clearLine(1) again", EdgeVerses.NONE, verses.clearLine(1));
        CHECK.due("poem", "a a a a//a a a a/", Verses.poem(verses));
        CHECK.due("clearLine(2)", 4, verses.clearLine(2));
        CHECK.due("lines that use a", 1, verses.word(0, 4));
        CHECK.due("poem", "a a a a///", Verses.poem(verses));
    }

    private static void clearLineIsAnAct() {
        EdgeVerses verses = Verses.withWords("a");
        verses.make();
        verses.clearLine(0);
        CHECK.due("history", 3, verses.count(10));
        verses.clearLine(0);
        verses.clearLine(1);
        CHECK.due("history after NONE and UNKNOWN", 3, verses.count(10));
        verses.undo();
        CHECK.due("undone", "a a a a/", Verses.poem(verses));
    }
}

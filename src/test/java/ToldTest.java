/** Promises 15, 16, 17, 18, 21 and 22: what is told. */
public final class ToldTest {
    private static final Check CHECK = new Check();

    public static void main(String[] args) {
        wordTells();
        linesThatUseAWord();
        beatsOnWhichAWordCouldBegin();
        wordErrors();
        letterAtTells();
        lineTells();
        bendsOfALine();
        rowsAmongWhichASearchChooses();
        manyRows();
        lineErrors();
        wordAtTells();
        poemAtReads();
        longestPoem();
        countTells();
        countErrors();
        CHECK.finish();
    }

    private static void wordTells() {
        EdgeVerses verses = Verses.withWords("a-'b-c-'d*7", "zyxwvuts", "'m");
        int[][] due = {{4, 4, 10, 7, 0, 'a', 'd', 0}, {8, 1, 0, 1, 0, 'z', 's', 4},
            {1, 1, 1, 1, 0, 'm', 'm', 4}};
        verses.setMetre(4, 5);
        for (int word = 0; word < 3; word++) {
            for (int what = 0; what < 8; what++) {
                String call = "word(" + word + ", " + what + ")";
                CHECK.due(call, due[word][what], verses.word(word, what));
            }
        }
    }

    private static void linesThatUseAWord() {
        EdgeVerses verses = Verses.withWords("a*3", "b*9");
        Verses.setMetre(verses, "...");
        Verses.setEdges(verses, "aabb/aabb");
        CHECK.due("lines before", 0, verses.word(0, 4));
        verses.makeLine(0);
        CHECK.due("a in line 0, three times", 1, verses.word(0, 4));
        verses.make();
        CHECK.due("poem", "a a a/a a a/b a b/b b b/", Verses.poem(verses));
        CHECK.due("lines that use a", 3, verses.word(0, 4));
        CHECK.due("lines that use b", 2, verses.word(1, 4));
        verses.clearLine(2);
        CHECK.due("lines that use a then", 2, verses.word(0, 4));
        CHECK.due("lines that use b then", 1, verses.word(1, 4));
    }

    private static void beatsOnWhichAWordCouldBegin() {
        EdgeVerses verses = Verses.withWords("a", "'b", "c-'c", "'d-d", "e-'e-e", "f-f-f-f", "g-g",
                "'h-'h-'h-'h");
        beats(verses, "..", 2, 2, 0, 0, 0, 0, 1, 0);
        beats(verses, ".'.'", 4, 4, 2, 1, 1, 0, 0, 0);
        beats(verses, "'.'.'.'.'.'.", 12, 12, 5, 6, 5, 0, 0, 0);
        beats(verses, "............", 12, 12, 0, 0, 0, 9, 11, 0);
        beats(verses, "''''''''''''", 12, 12, 0, 0, 0, 0, 0, 9);
        beats(verses, "'.....''''", 10, 10, 1, 1, 0, 2, 4, 1);
        beats(verses, "''.", 3, 3, 0, 1, 0, 0, 0, 0);
    }

    private static void beats(EdgeVerses verses, String metre, int... due) {
        Verses.setMetre(verses, metre);
        int fitting = 0;
        for (int word = 0; word < due.length; word++) {
            CHECK.due("word(" + word + ", 7) of " + metre, due[word], verses.word(word, 7));
            fitting += due[word] > 0 ? 1 : 0;
        }
        CHECK.due("count(8) of " + metre, fitting, verses.count(8));
    }

    private static void wordErrors() {
        EdgeVerses verses = Verses.withWords("a", "b");
        int[] bad = {-1, 8, Integer.MIN_VALUE, Integer.MAX_VALUE};
        for (int what : bad) {
            CHECK.due("word(1, " + what + ")", EdgeVerses.BAD_VALUE, verses.word(1, what));
            CHECK.due("word(2, " + what + ")", EdgeVerses.UNKNOWN, verses.word(2, what));
        }
        int[] unknown = {-1, 2, 40, Integer.MIN_VALUE, Integer.MAX_VALUE};
        for (int word : unknown) {
            CHECK.due("word(" + word + ", 0)", EdgeVerses.UNKNOWN, verses.word(word, 0));
        }
    }

    private static void letterAtTells() {
        EdgeVerses verses = Verses.withWords("'abcd-efgh", "z");
        String letters = "abcdefgh";
        for (int index = 0; index < 8; index++) {
            CHECK.due("letterAt(0, " + index + ")", (int) letters.charAt(index),
                    verses.letterAt(0, index));
        }
        CHECK.due("letterAt(0, 8)", EdgeVerses.NONE, verses.letterAt(0, 8));
        CHECK.due("letterAt(0, MAX)", EdgeVerses.NONE, verses.letterAt(0, Integer.MAX_VALUE));
        CHECK.due("letterAt(0, -1)", EdgeVerses.BAD_VALUE, verses.letterAt(0, -1));
        CHECK.due("letterAt(0, MIN)", EdgeVerses.BAD_VALUE, verses.letterAt(0, Integer.MIN_VALUE));
        CHECK.due("letterAt(1, 0)", (int) 'z', verses.letterAt(1, 0));
        CHECK.due("letterAt(1, 1)", EdgeVerses.NONE, verses.letterAt(1, 1));
        CHECK.due("letterAt(2, 0)", EdgeVerses.UNKNOWN, verses.letterAt(2, 0));
        CHECK.due("letterAt(2, -1)", EdgeVerses.UNKNOWN, verses.letterAt(2, -1));
        CHECK.due("letterAt(-1, 0)", EdgeVerses.UNKNOWN, verses.letterAt(-1, 0));
        CHECK.due("letterAt(MAX, 0)", EdgeVerses.UNKNOWN, verses.letterAt(Integer.MAX_VALUE, 0));
    }

    private static void lineTells() {
        EdgeVerses verses = Verses.withWords("ab*9", "bcd-e*2");
        Verses.setMetre(verses, "....");
        Verses.setEdges(verses, "abx/bez");
        verses.make();
        CHECK.due("poem", "ab bcde ab/bcde bcde//", Verses.poem(verses));
        int[][] due = {{3, 0, 8, 'a', 'b', 2}, {2, 0, 8, 'b', 'e', 1}, {0, 0, 0, 'x', 'z', 0}};
        for (int line = 0; line < due.length; line++) {
            for (int what = 0; what < 6; what++) {
                String call = "line(" + line + ", " + what + ")";
                CHECK.due(call, due[line][what], verses.line(line, what));
            }
        }
    }

    private static void bendsOfALine() {
        EdgeVerses verses = Verses.withWords("'a*9", "b*9");
        Verses.setMetre(verses, "'..'");
        Verses.setEdges(verses, "abc/abc");
        verses.make();
        CHECK.due("poem", "a b b a/b b b b//", Verses.poem(verses));
        CHECK.due("bends of a b b a", 0, verses.line(0, 1));
        CHECK.due("bends of b b b b", 2, verses.line(1, 1));
        CHECK.due("bends of no words", 0, verses.line(2, 1));
        Verses.setMetre(verses, ".'..");
        verses.make();
        CHECK.due("poem", "a a b a/b a b b//", Verses.poem(verses));
        CHECK.due("bends of a a b a", 2, verses.line(0, 1));
        CHECK.due("bends of b a b b", 0, verses.line(1, 1));
        CHECK.due("bends in all lines", 2, verses.count(3));
        EdgeVerses longer = Verses.withWords("'c-'c-c", "b");
        Verses.setMetre(longer, "''.'");
        Verses.setEdges(longer, "c/b");
        longer.make();
        CHECK.due("bend behind a word of three syllables", 1, longer.line(0, 1));
    }

    private static int rows(String metre, String edges, String... words) {
        EdgeVerses verses = Verses.withWords(words);
        Verses.setMetre(verses, metre);
        Verses.setEdges(verses, edges);
        return verses.line(0, 5);
    }

    private static void rowsAmongWhichASearchChooses() {
        CHECK.due("rows a ? b", 3, rows("...", "a/b", "a", "b", "c"));
        CHECK.due("bends are no matter", 3, rows("'.'", "a/b", "a", "'b", "c"));
        CHECK.due("two for each place", 4, rows("..", "a/b", "a", "b", "ab"));
        CHECK.due("and a longer word", 5, rows("..", "a/b", "a", "b", "ab", "a-cb"));
        CHECK.due("which has not the metre", 4, rows(".'", "a/b", "a", "b", "ab", "a-cb"));
        CHECK.due("no word begins so", 0, rows("..", "a/b", "b", "c-b"));
        CHECK.due("no words", 0, rows("..", "a/a"));
        EdgeVerses verses = Verses.withWords("a", "b");
        Verses.setMetre(verses, "..");
        Verses.setEdges(verses, "ab/ba");
        CHECK.due("rows for line 1", 1, verses.line(1, 5));
        verses.makeLine(0);
        CHECK.due("rows for line 0, its own words are free for it", 1, verses.line(0, 5));
        CHECK.due("rows for line 1 then", 0, verses.line(1, 5));
        verses.setLimit(0, 2);
        CHECK.due("rows for line 1 with a alone", 0, verses.line(1, 5));
        verses.setLimit(1, 2);
        CHECK.due("rows for line 1 with both", 1, verses.line(1, 5));
    }

    /** A new object with words of one syllable, "a..a", for lines from a to a. */
    private static EdgeVerses wordsFromAToA(int howMany, int beats) {
        EdgeVerses verses = new EdgeVerses();
        for (int word = 0; word < howMany; word++) {
            Verses.addWord(verses, "a" + (char) ('a' + word % 20) + (char) ('a' + word / 20) + "a");
        }
        verses.setMetre(beats, 0);
        return verses;
    }

    private static void manyRows() {
        CHECK.due("31 * 31 rows", 961, wordsFromAToA(31, 2).line(0, 5));
        CHECK.due("32 * 32 rows", 1000, wordsFromAToA(32, 2).line(0, 5));
        EdgeVerses verses = wordsFromAToA(10, 3);
        CHECK.due("10 * 10 * 10 rows", 1000, verses.line(0, 5));
        Verses.addWord(verses, "a-b-a");
        CHECK.due("a row more", 1000, verses.line(0, 5));
        int[][] powers = {{2, 9, 512}, {2, 10, 1000}, {2, 12, 1000}, {16, 8, 1000}, {40, 12, 1000},
            {32, 7, 1000}, {1, 12, 1}, {3, 6, 729}, {4, 12, 1000}, {8, 11, 1000}};
        for (int[] power : powers) {
            CHECK.due(power[0] + " words on " + power[1] + " beats", power[2],
                    wordsFromAToA(power[0], power[1]).line(0, 5));
        }
        rowsAround999();
    }

    private static void rowsAround999() {
        EdgeVerses verses = new EdgeVerses();
        for (int word = 0; word < 24; word++) {
            Verses.addWord(verses, "a" + (char) ('a' + word) + "b");
        }
        for (int word = 0; word < 15; word++) {
            char middle = (char) ('a' + word);
            Verses.addWord(verses, word < 3 ? "a" + middle + "c" : "c" + middle + "b");
        }
        verses.setMetre(2, 0);
        Verses.setEdges(verses, "a/b");
        CHECK.due("27 * 36 rows", 972, verses.line(0, 5));
        Verses.addWord(verses, "b");
        CHECK.due("27 * 37 rows", 999, verses.line(0, 5));
        verses.undo();
        Verses.addWord(verses, "a-b");
        CHECK.due("27 * 36 rows, and one", 973, verses.line(0, 5));
    }

    private static void lineErrors() {
        EdgeVerses verses = Verses.withWords("a");
        Verses.setEdges(verses, "ab/ba");
        int[] bad = {-1, 6, Integer.MIN_VALUE, Integer.MAX_VALUE};
        for (int what : bad) {
            CHECK.due("line(1, " + what + ")", EdgeVerses.BAD_VALUE, verses.line(1, what));
            CHECK.due("line(2, " + what + ")", EdgeVerses.UNKNOWN, verses.line(2, what));
        }
        int[] unknown = {-1, 2, 8, Integer.MIN_VALUE, Integer.MAX_VALUE};
        for (int line : unknown) {
            for (int what = 0; what < 6; what++) {
                String call = "line(" + line + ", " + what + ")";
                CHECK.due(call, EdgeVerses.UNKNOWN, verses.line(line, what));
            }
        }
    }

    private static void wordAtTells() {
        EdgeVerses verses = Verses.withWords("c", "b", "a");
        Verses.setMetre(verses, "...");
        Verses.setEdges(verses, "ax/bx");
        verses.make();
        int[] due = {2, 0, 1, EdgeVerses.NONE, EdgeVerses.NONE};
        for (int place = 0; place < due.length; place++) {
            CHECK.due("wordAt(0, " + place + ")", due[place], verses.wordAt(0, place));
            CHECK.due("wordAt(1, " + place + ")", EdgeVerses.NONE, verses.wordAt(1, place));
        }
        CHECK.due("wordAt(0, 12)", EdgeVerses.NONE, verses.wordAt(0, 12));
        CHECK.due("wordAt(0, MAX)", EdgeVerses.NONE, verses.wordAt(0, Integer.MAX_VALUE));
        CHECK.due("wordAt(0, -1)", EdgeVerses.BAD_VALUE, verses.wordAt(0, -1));
        CHECK.due("wordAt(1, MIN)", EdgeVerses.BAD_VALUE, verses.wordAt(1, Integer.MIN_VALUE));
        int[] unknown = {-1, 2, Integer.MIN_VALUE, Integer.MAX_VALUE};
        for (int line : unknown) {
            CHECK.due("wordAt(" + line + ", 0)", EdgeVerses.UNKNOWN, verses.wordAt(line, 0));
            CHECK.due("wordAt(" + line + ", -1)", EdgeVerses.UNKNOWN, verses.wordAt(line, -1));
        }
        verses.clearLine(0);
        CHECK.due("wordAt(0, 0) of an emptied line", EdgeVerses.NONE, verses.wordAt(0, 0));
    }

    private static void poemAtReads() {
        EdgeVerses verses = Verses.withWords("ab*9", "'cd-e");
        Verses.setMetre(verses, "'..");
        Verses.setEdges(verses, "xcax/xbbx");
        verses.make();
        String due = "/cde ab/ab ab ab//";
        for (int index = 0; index < due.length(); index++) {
            CHECK.due("poemAt(" + index + ")", (int) due.charAt(index), verses.poemAt(index));
        }
        CHECK.due("poemAt(length)", EdgeVerses.NONE, verses.poemAt(due.length()));
        CHECK.due("poemAt(MAX)", EdgeVerses.NONE, verses.poemAt(Integer.MAX_VALUE));
        CHECK.due("poemAt(-1)", EdgeVerses.BAD_VALUE, verses.poemAt(-1));
        CHECK.due("poemAt(MIN)", EdgeVerses.BAD_VALUE, verses.poemAt(Integer.MIN_VALUE));
        CHECK.due("count(9)", due.length(), verses.count(9));
    }

    private static void longestPoem() {
        EdgeVerses verses = Verses.withWords("abcdefga*9");
        verses.setMetre(12, 0);
        Verses.setEdges(verses, "aaaaaaaa/aaaaaaaa");
        CHECK.due("make()", 8, verses.make());
        CHECK.due("count(9)", 864, verses.count(9));
        CHECK.due("poemAt(7)", (int) 'a', verses.poemAt(7));
        CHECK.due("poemAt(8)", (int) ' ', verses.poemAt(8));
        CHECK.due("poemAt(9)", (int) 'a', verses.poemAt(9));
        CHECK.due("poemAt(106)", (int) 'a', verses.poemAt(106));
        CHECK.due("poemAt(107)", (int) '/', verses.poemAt(107));
        CHECK.due("poemAt(108)", (int) 'a', verses.poemAt(108));
        CHECK.due("poemAt(109)", (int) 'b', verses.poemAt(109));
        CHECK.due("poemAt(862)", (int) 'a', verses.poemAt(862));
        CHECK.due("poemAt(863)", (int) '/', verses.poemAt(863));
        CHECK.due("poemAt(864)", EdgeVerses.NONE, verses.poemAt(864));
        CHECK.due("letters of line 7", 96, verses.line(7, 2));
        CHECK.due("words of line 7", 12, verses.line(7, 0));
    }

    private static void countTells() {
        EdgeVerses verses = Verses.withWords("'a*2", "b*9", "c", "'d-'d-d");
        Verses.setMetre(verses, ".''");
        Verses.setEdges(verses, "abcxa/abcxa");
        CHECK.due("make()", 3, verses.make());
        CHECK.due("poem", "a a a/b a b/c b c///", Verses.poem(verses));
        int[] due = {4, 5, 3, 4, 3, 6, 3, 2, 3, 20, 5, 11};
        for (int what = 0; what < due.length; what++) {
            CHECK.due("count(" + what + ")", due[what], verses.count(what));
        }
        verses.setLimit(1, 3);
        CHECK.due("words that are used up", 2, verses.count(7));
        verses.setLimit(1, 2);
        CHECK.due("words that are used up, b too", 3, verses.count(7));
    }

    private static void countErrors() {
        EdgeVerses verses = new EdgeVerses();
        int[] bad = {-1, 12, 13, Integer.MIN_VALUE, Integer.MAX_VALUE};
        for (int what : bad) {
            CHECK.due("count(" + what + ")", EdgeVerses.BAD_VALUE, verses.count(what));
        }
    }
}

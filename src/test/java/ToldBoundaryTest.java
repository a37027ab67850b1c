/**
 * Boundary cases of what is told: promises 1, 15 to 18, 21 and 22, the constants, and the last call
 * for which an object is used. Each test stands for the sentence that is quoted above it.
 */
public final class ToldBoundaryTest {
    private static final Check CHECK = new Check();

    public static void main(String[] args) {
        emptyStoreAndOneEmptyLine();
        propertiesOfAWord();
        propertiesOfNoWord();
        linesThatUseAWord();
        beatsWithinTheMetre();
        lettersOfAWord();
        propertiesOfALine();
        propertiesOfNoLine();
        lineThatIsEmpty();
        placesOfALine();
        poemOfEmptyLines();
        shortestPoem();
        longestPoem();
        indexesOfThePoem();
        countsOutOfRange();
        countsOfAnEmptyStore();
        countsOfAFullStore();
        wordsThatAreUsedAndUsedUp();
        statesAndLengthOfTheText();
        lastCall();
        dearestCalls();
        CHECK.finish();
    }

    private static EdgeVerses poem(String metre, String edges, String... words) {
        EdgeVerses verses = Verses.withWords(words);
        Verses.setMetre(verses, metre);
        Verses.setEdges(verses, edges);
        verses.make();
        return verses;
    }

    /** EdgeVerses: "Creates an empty store of words, and a poem of one empty line." */
    private static void emptyStoreAndOneEmptyLine() {
        EdgeVerses verses = new EdgeVerses();
        CHECK.due("words", 0, verses.count(0));
        CHECK.due("lines", 1, verses.count(1));
        CHECK.due("lines that are made", 0, verses.count(2));
        CHECK.due("words of line 0", 0, verses.line(0, 0));
        CHECK.due("line 1", EdgeVerses.UNKNOWN, verses.line(1, 0));
        CHECK.due("word 0", EdgeVerses.UNKNOWN, verses.word(0, 0));
        CHECK.due("the first word", 0, Verses.addWord(verses, "a"));
    }

    /** word: "what: 0 ... 7"; "Returns the property; UNKNOWN; BAD_VALUE." */
    private static void propertiesOfAWord() {
        EdgeVerses verses = Verses.withWords("a", "'a-b-'c-d*9");
        int[] due = {4, 4, 5, 9, 0, 'a', 'd', 0};
        for (int what = 0; what <= 7; what++) {
            CHECK.due("word(1, " + what + ")", due[what], verses.word(1, what));
        }
        for (int what : Bounds.outside(0, 7)) {
            CHECK.due("word(0, " + what + ")", EdgeVerses.BAD_VALUE, verses.word(0, what));
            CHECK.due("word(1, " + what + ")", EdgeVerses.BAD_VALUE, verses.word(1, what));
            CHECK.due("word(2, " + what + ")", EdgeVerses.UNKNOWN, verses.word(2, what));
            CHECK.due("word(-1, " + what + ")", EdgeVerses.UNKNOWN, verses.word(-1, what));
        }
    }

    /** word: "UNKNOWN", of an empty store, of a full one, and of those between. */
    private static void propertiesOfNoWord() {
        EdgeVerses empty = new EdgeVerses();
        EdgeVerses few = Verses.withWords("a", "b", "c");
        EdgeVerses full = Verses.withFullStore();
        for (int what = 0; what <= 7; what += 7) {
            for (int word : Bounds.from(0)) {
                CHECK.due("no words: word(" + word + ", " + what + ")", EdgeVerses.UNKNOWN, empty.word(word, what));
            }
            for (int word : Bounds.outside(0, 2)) {
                CHECK.due("3 words: word(" + word + ", " + what + ")", EdgeVerses.UNKNOWN, few.word(word, what));
            }
            for (int word : Bounds.outside(0, 39)) {
                CHECK.due("40 words: word(" + word + ", " + what + ")", EdgeVerses.UNKNOWN, full.word(word, what));
            }
        }
        CHECK.due("40 words: word(39, 0)", 2, full.word(39, 0));
        CHECK.due("3 words: word(2, 6)", (int) 'c', few.word(2, 6));
    }

    /** word: "4 for the number of lines that use it": none, one (though often), and all. */
    private static void linesThatUseAWord() {
        EdgeVerses verses = poem("............", "aaaaaaaa/aaaaaaaa", "a*9", "b");
        CHECK.due("all eight lines", 8, verses.word(0, 4));
        CHECK.due("no line", 0, verses.word(1, 4));
        for (int line = 0; line < 7; line++) {
            verses.clearLine(line);
        }
        CHECK.due("one line, twelve times", 1, verses.word(0, 4));
        verses.clearLine(7);
        CHECK.due("no line any more", 0, verses.word(0, 4));
    }

    /** word: "7 ... so that all its syllables are within the metre, and stand as told" */
    private static void beatsWithinTheMetre() {
        String[] words = {"a", "b-b", "c-c-c", "d-d-d-d", "'e", "'f-'f", "'g-'g-'g", "'h-'h-'h-'h"};
        EdgeVerses verses = Verses.withWords(words);
        for (int beats = 2; beats <= 12; beats++) {
            for (int strong : new int[] {0, (1 << beats) - 1}) {
                verses.setMetre(beats, strong);
                int fitting = 0;
                for (int word = 0; word < 8; word++) {
                    int syllables = word % 4 + 1;
                    boolean stands = syllables == 1 || word >= 4 == strong > 0;
                    int due = stands ? Math.max(0, beats - syllables + 1) : 0;
                    CHECK.due(words[word] + " on " + beats + " beats, strong " + strong, due,
                            verses.word(word, 7));
                    fitting += due > 0 ? 1 : 0;
                }
                CHECK.due("count(8) on " + beats + " beats", fitting, verses.count(8));
            }
        }
        lastBeatOnWhichAWordFits();
    }

    private static void lastBeatOnWhichAWordFits() {
        EdgeVerses verses = Verses.withWords("'a-b", "'c-d-e", "'f-g-h-i", "j-'k");
        verses.setMetre(12, 1 << 11);
        int[][] due = {{1 << 11, 0, 0, 0, 1}, {1 << 10, 1, 0, 0, 1}, {1 << 9, 1, 1, 0, 1},
            {1 << 8, 1, 1, 1, 1}, {1, 1, 1, 1, 0}, {1 << 1, 1, 1, 1, 1}};
        for (int[] metre : due) {
            verses.setMetre(12, metre[0]);
            for (int word = 0; word < 4; word++) {
                CHECK.due("word(" + word + ", 7) on strong beats " + metre[0], metre[word + 1],
                        verses.word(word, 7));
            }
        }
    }

    /** letterAt: "UNKNOWN; BAD_VALUE if index is negative; NONE if it has not so many letters." */
    private static void lettersOfAWord() {
        for (int letters = 1; letters <= 8; letters++) {
            EdgeVerses verses = Verses.withWords("abcdefgh".substring(0, letters));
            CHECK.due("the first letter of " + letters, (int) 'a', verses.letterAt(0, 0));
            CHECK.due("the last letter of " + letters, 'a' + letters - 1, verses.letterAt(0, letters - 1));
            for (int index : Bounds.from(letters)) {
                CHECK.due("letterAt(0, " + index + ") of " + letters, EdgeVerses.NONE, verses.letterAt(0, index));
            }
        }
        EdgeVerses verses = Verses.withWords("abc");
        for (int index : Bounds.negative()) {
            CHECK.due("letterAt(0, " + index + ")", EdgeVerses.BAD_VALUE, verses.letterAt(0, index));
            CHECK.due("letterAt(1, " + index + ")", EdgeVerses.UNKNOWN, verses.letterAt(1, index));
            CHECK.due("letterAt(-1, " + index + ")", EdgeVerses.UNKNOWN, verses.letterAt(-1, index));
        }
        for (int word : Bounds.outside(0, 0)) {
            CHECK.due("letterAt(" + word + ", 0)", EdgeVerses.UNKNOWN, verses.letterAt(word, 0));
            CHECK.due("letterAt(" + word + ", 3)", EdgeVerses.UNKNOWN, verses.letterAt(word, 3));
        }
    }

    /** line: "what: 0 ... 5"; "Returns the property; UNKNOWN; BAD_VALUE." */
    private static void propertiesOfALine() {
        EdgeVerses verses = poem("'..", "ax/bx", "ac", "d-b");
        int[] due = {2, 1, 4, 'a', 'b', 1};
        for (int what = 0; what <= 5; what++) {
            CHECK.due("line(0, " + what + ")", due[what], verses.line(0, what));
        }
        for (int what : Bounds.outside(0, 5)) {
            CHECK.due("line(0, " + what + ")", EdgeVerses.BAD_VALUE, verses.line(0, what));
            CHECK.due("line(1, " + what + ")", EdgeVerses.BAD_VALUE, verses.line(1, what));
            CHECK.due("line(2, " + what + ")", EdgeVerses.UNKNOWN, verses.line(2, what));
            CHECK.due("line(-1, " + what + ")", EdgeVerses.UNKNOWN, verses.line(-1, what));
        }
    }

    /** line: "UNKNOWN", of the least poem and of the greatest one. */
    private static void propertiesOfNoLine() {
        EdgeVerses one = new EdgeVerses();
        EdgeVerses eight = poem("..", "abcdefgh/abcdefgh");
        for (int what = 0; what <= 5; what++) {
            for (int line : Bounds.outside(0, 0)) {
                CHECK.due("one line: line(" + line + ", " + what + ")", EdgeVerses.UNKNOWN, one.line(line, what));
            }
            for (int line : Bounds.outside(0, 7)) {
                CHECK.due("8 lines: line(" + line + ", " + what + ")", EdgeVerses.UNKNOWN, eight.line(line, what));
            }
        }
        CHECK.due("8 lines: line(7, 3)", (int) 'h', eight.line(7, 3));
        Verses.setEdges(eight, "ab/ab");
        CHECK.due("2 lines, that were 8: line(2, 3)", EdgeVerses.UNKNOWN, eight.line(2, 3));
        CHECK.due("2 lines, that were 8: line(1, 3)", (int) 'b', eight.line(1, 3));
    }

    /** line: "0 for the number of its words (0 if it is empty)" */
    private static void lineThatIsEmpty() {
        EdgeVerses verses = poem("''", "a/b", "ac", "db");
        int[] made = {2, 2, 4, 'a', 'b', 1};
        int[] empty = {0, 0, 0, 'a', 'b', 1};
        for (int what = 0; what <= 5; what++) {
            CHECK.due("line(0, " + what + ") when it is made", made[what], verses.line(0, what));
        }
        verses.clearLine(0);
        for (int what = 0; what <= 5; what++) {
            CHECK.due("line(0, " + what + ") when it is empty", empty[what], verses.line(0, what));
        }
    }

    /** wordAt: "UNKNOWN; BAD_VALUE if place is negative; NONE if it has not so many words." */
    private static void placesOfALine() {
        for (int words = 2; words <= 12; words++) {
            EdgeVerses verses = poem(".".repeat(words), "ax/bx", "b", "a");
            CHECK.due("the first word of " + words, 1, verses.wordAt(0, 0));
            CHECK.due("the last word of " + words, 0, verses.wordAt(0, words - 1));
            for (int place : Bounds.from(words)) {
                CHECK.due("wordAt(0, " + place + ") of " + words, EdgeVerses.NONE, verses.wordAt(0, place));
            }
        }
        EdgeVerses verses = poem("..", "ax/bx", "b", "a");
        for (int place : Bounds.from(0)) {
            CHECK.due("wordAt(1, " + place + ") of none", EdgeVerses.NONE, verses.wordAt(1, place));
        }
        for (int place : Bounds.negative()) {
            CHECK.due("wordAt(0, " + place + ")", EdgeVerses.BAD_VALUE, verses.wordAt(0, place));
            CHECK.due("wordAt(1, " + place + ") of none", EdgeVerses.BAD_VALUE, verses.wordAt(1, place));
            CHECK.due("wordAt(2, " + place + ")", EdgeVerses.UNKNOWN, verses.wordAt(2, place));
            CHECK.due("wordAt(-1, " + place + ")", EdgeVerses.UNKNOWN, verses.wordAt(-1, place));
        }
        for (int line : Bounds.outside(0, 1)) {
            CHECK.due("wordAt(" + line + ", 0)", EdgeVerses.UNKNOWN, verses.wordAt(line, 0));
            CHECK.due("wordAt(" + line + ", 12)", EdgeVerses.UNKNOWN, verses.wordAt(line, 12));
        }
    }

    /** poemAt: ""/" behind each line (also an empty one)" */
    private static void poemOfEmptyLines() {
        for (int lines = 1; lines <= 8; lines++) {
            String edge = "a".repeat(lines);
            EdgeVerses verses = poem("..", edge + "/" + edge);
            for (int index = 0; index < lines; index++) {
                CHECK.due("poemAt(" + index + ")", (int) '/', verses.poemAt(index));
            }
            CHECK.due("poemAt(" + lines + ")", EdgeVerses.NONE, verses.poemAt(lines));
            CHECK.due("count(9)", lines, verses.count(9));
        }
        CHECK.due("empty ahead, between and behind", "/aa//aa//",
                Verses.poem(poem("..", "xaxax/aaaaa", "a-a*9")));
    }

    /** poemAt: "each with its words, one blank between two words" */
    private static void shortestPoem() {
        CHECK.due("a single word", "ab/", Verses.poem(poem("..", "a/b", "a-b")));
        CHECK.due("two words of a letter", "a b/", Verses.poem(poem("..", "a/b", "a", "b")));
        CHECK.due("words of one and of eight letters", "a abcdefgh//",
                Verses.poem(poem("...", "aa/hh", "a", "abcd-efgh")));
    }

    /** count: "9 for the length of what poemAt() reads", of the longest poem that there is. */
    private static void longestPoem() {
        EdgeVerses verses = poem("............", "aaaaaaaa/aaaaaaaa", "abcdefga*9");
        String line = "abcdefga" + " abcdefga".repeat(11) + "/";
        CHECK.due("length", 8 * line.length(), verses.count(9));
        for (int index = 0; index < line.length(); index++) {
            CHECK.due("poemAt(" + index + ")", (int) line.charAt(index), verses.poemAt(index));
        }
        int last = 7 * line.length();
        for (int index = 0; index < line.length(); index++) {
            CHECK.due("poemAt(" + (last + index) + ")", (int) line.charAt(index), verses.poemAt(last + index));
        }
        CHECK.due("poemAt(864)", EdgeVerses.NONE, verses.poemAt(864));
        CHECK.due("words of line 7", 12, verses.line(7, 0));
        CHECK.due("letters of line 7", 96, verses.line(7, 2));
    }

    /** poemAt: "BAD_VALUE if index is negative; NONE if it is not so long." */
    private static void indexesOfThePoem() {
        EdgeVerses empty = new EdgeVerses();
        EdgeVerses made = poem("..", "ax/bx", "a", "b");
        CHECK.due("poemAt(0) of an empty line", (int) '/', empty.poemAt(0));
        CHECK.due("poemAt(4), the last one", (int) '/', made.poemAt(4));
        for (int index : Bounds.from(1)) {
            CHECK.due("poemAt(" + index + ") of an empty line", EdgeVerses.NONE, empty.poemAt(index));
        }
        for (int index : Bounds.from(5)) {
            CHECK.due("poemAt(" + index + ")", EdgeVerses.NONE, made.poemAt(index));
        }
        for (int index : Bounds.negative()) {
            CHECK.due("poemAt(" + index + ") of an empty line", EdgeVerses.BAD_VALUE, empty.poemAt(index));
            CHECK.due("poemAt(" + index + ")", EdgeVerses.BAD_VALUE, made.poemAt(index));
        }
    }

    /** count: "what: 0 ... 11"; "Returns the number; BAD_VALUE." */
    private static void countsOutOfRange() {
        EdgeVerses verses = poem("..", "aa/aa", "a");
        int[] due = {1, 2, 1, 0, 2, 0, 1, 1, 1, 5, 4, 5};
        for (int what = 0; what <= 11; what++) {
            CHECK.due("count(" + what + ")", due[what], verses.count(what));
        }
        for (int what : Bounds.outside(0, 11)) {
            CHECK.due("count(" + what + ")", EdgeVerses.BAD_VALUE, verses.count(what));
            CHECK.due("count(" + what + ") of a new object", EdgeVerses.BAD_VALUE, new EdgeVerses().count(what));
        }
    }

    /** count: each number, where there is nothing to count. */
    private static void countsOfAnEmptyStore() {
        int[] due = {0, 1, 0, 0, 4, 10, 0, 0, 0, 1, 0, 0};
        for (int what = 0; what <= 11; what++) {
            CHECK.due("count(" + what + ") of a new object", due[what], new EdgeVerses().count(what));
        }
    }

    /** count: each number, where there is no room for more. */
    private static void countsOfAFullStore() {
        EdgeVerses verses = new EdgeVerses();
        for (int word = 0; word < 40; word++) {
            Verses.addWord(verses, "'a" + (char) ('a' + word % 20) + (word < 20 ? "a" : "xa"));
        }
        for (int word = 0; word < 8; word++) {
            verses.setLimit(word, word + 1);
        }
        verses.setMetre(12, 0);
        Verses.setEdges(verses, "aaaaaaaa/aaaaaaaa");
        CHECK.due("make()", 8, verses.make());
        // The first word is used in one line, the next ones in two, in three, and in the two left.
        int[] due = {40, 8, 8, 96, 12, 0, 4, 3, 40, 384, 5, 17};
        for (int what = 0; what <= 11; what++) {
            CHECK.due("count(" + what + ") of a full store", due[what], verses.count(what));
        }
        Verses.typed(verses, "x".repeat(40));
        CHECK.due("length of a full text", 40, verses.count(11));
        verses.setMetre(12, 4095);
        CHECK.due("all beats strong", 4095, verses.count(5));
    }

    /** count: "6 for words that are used, 7 for words that are used in as many lines as their limits" */
    private static void wordsThatAreUsedAndUsedUp() {
        EdgeVerses verses = Verses.withWords("a*2", "b*3", "c");
        Verses.setMetre(verses, "..");
        Verses.setEdges(verses, "aab/bba");
        int[][] due = {{2, 0}, {2, 1}, {2, 1}};
        for (int line = 0; line < 3; line++) {
            CHECK.due("makeLine(" + line + ")", line < 2 ? 2 : EdgeVerses.NONE, verses.makeLine(line));
            CHECK.due("used with line " + line, due[line][0], verses.count(6));
            CHECK.due("used up with line " + line, due[line][1], verses.count(7));
        }
        verses.setLimit(1, 2);
        CHECK.due("used up, both", 2, verses.count(7));
        verses.setLimit(1, 9);
        CHECK.due("used up, one again", 1, verses.count(7));
        verses.clearLine(0);
        CHECK.due("used with a line fewer", 2, verses.count(6));
        CHECK.due("used up with a line fewer", 0, verses.count(7));
        verses.clearLine(1);
        CHECK.due("used in no line", 0, verses.count(6));
    }

    /** count: "10 for the states in the history, 11 for the length of the text" */
    private static void statesAndLengthOfTheText() {
        EdgeVerses verses = new EdgeVerses();
        for (int act = 0; act <= 7; act++) {
            CHECK.due("states after " + act + " acts", Math.min(act, 5), verses.count(10));
            verses.setMetre(2, act % 4);
        }
        for (int length = 0; length <= 42; length++) {
            CHECK.due("length of " + length, Math.min(length, 40), verses.count(11));
            verses.type('x');
        }
    }

    /** "An object is used for at most 512 calls after it has been made": the last one of them. */
    private static void lastCall() {
        EdgeVerses verses = new EdgeVerses();
        CHECK.due("call 1", 1, verses.type('a'));
        CHECK.due("call 2", 0, verses.addWord());
        for (int call = 3; call <= 511; call++) {
            if (call % 2 == 1) {
                CHECK.due("call " + call, 4, verses.makeLine(0));
            } else {
                CHECK.due("call " + call, 4, verses.clearLine(0));
            }
        }
        CHECK.due("call 512", 4, verses.undo());
        EdgeVerses other = new EdgeVerses();
        for (int call = 1; call <= 511; call++) {
            CHECK.due("call " + call, 0, other.setMetre(12, call));
        }
        CHECK.due("call 512", 511, other.count(5));
    }

    /** The same, with the greatest store and the dearest calls. */
    private static void dearestCalls() {
        EdgeVerses verses = Verses.withFullStore();
        verses.setMetre(12, 1365);
        Verses.setEdges(verses, "aaaaaaaa/nnnnnnnn");
        verses.keep(0);
        for (int round = 0; round < 40; round++) {
            CHECK.due("make()", 2, verses.make());
            CHECK.due("rows", 1000, verses.line(0, 5));
            CHECK.due("near miss", 0, verses.nearMiss(0, 0));
            CHECK.due("restore(0)", 40, verses.restore(0));
        }
    }
}

/**
 * Boundary cases of lines that are found, made, cleared and nearly missed: 'Terms' (edges, finding
 * lines, near miss), promises 9, 10, 11 and 19, and line(.., 5) of promise 17. Each test stands for
 * the sentence of the document that is quoted above it.
 */
public final class LinesBoundaryTest {
    private static final Check CHECK = new Check();

    public static void main(String[] args) {
        lineOfASingleWord();
        bothLettersOfEachLine();
        usedInFewerLinesThanTheLimit();
        allLinesButThisOneCount();
        fewerBendsFirst();
        fewerWordsThen();
        firstDifferenceAtEachPlace();
        noRow();
        metreThatBecomesShorterAndLonger();
        lineThatIsFoundAgain();
        linesThatAreNone();
        makeWithNothingToMake();
        makeOneLineAndAllLines();
        fromTheFirstOneOn();
        aLineForWhichThereIsNone();
        whatIsLeftThen();
        clearedLines();
        rowsUpToAThousand();
        moreRowsThanNumbers();
        rowsAmongWhatIsLeftNow();
        oneLetterWrongAndNotBoth();
        bestNearMissByTheSameOrder();
        placesOfANearMiss();
        nearMissOfWhatIsLeft();
        CHECK.finish();
    }

    private static EdgeVerses poem(String metre, String edges, String... words) {
        EdgeVerses verses = Verses.withWords(words);
        Verses.setMetre(verses, metre);
        Verses.setEdges(verses, edges);
        return verses;
    }

    /** "(A line can be a single word.)" */
    private static void lineOfASingleWord() {
        for (int beats = 2; beats <= 4; beats++) {
            EdgeVerses verses = poem(".".repeat(beats), "a/z", "a" + "-z".repeat(beats - 1));
            CHECK.due("one word of " + beats + " syllables", 1, verses.makeLine(0));
            CHECK.due("line(0, 0)", 1, verses.line(0, 0));
            CHECK.due("wordAt(0, 0)", 0, verses.wordAt(0, 0));
            CHECK.due("wordAt(0, 1)", EdgeVerses.NONE, verses.wordAt(0, 1));
        }
        CHECK.due("its first letter is wrong", EdgeVerses.NONE, poem("..", "b/z", "a-z").makeLine(0));
        CHECK.due("its last letter is wrong", EdgeVerses.NONE, poem("..", "a/y", "a-z").makeLine(0));
        CHECK.due("five beats", EdgeVerses.NONE, poem(".....", "a/z", "a-z-z-z").makeLine(0));
    }

    /** "its first word begins with the letter of the first edge, and its last word ends with that" */
    private static void bothLettersOfEachLine() {
        EdgeVerses verses = poem("..", "abcdefgh/hgfedcba", "a-h", "b-g", "c-f", "d-e", "e-d", "f-c",
                "g-b", "h-a");
        CHECK.due("make()", 8, verses.make());
        CHECK.due("poem", "ah/bg/cf/de/ed/fc/gb/ha/", Verses.poem(verses));
        EdgeVerses crossed = poem("..", "abcdefgh/hgfedcba", "a-g", "b-h", "c-e", "d-f", "e-c", "f-d",
                "g-a", "h-b");
        CHECK.due("with the last letters of other lines", EdgeVerses.NONE, crossed.make());
    }

    /** "whose words are each used in fewer lines than their limits" */
    private static void usedInFewerLinesThanTheLimit() {
        for (int limit = 1; limit <= 9; limit++) {
            EdgeVerses verses = poem("..", "aaaaaaaa/aaaaaaaa", "a-a*" + limit);
            for (int line = 7; line >= 0; line--) {
                String call = "limit " + limit + ", used in " + (7 - line) + " lines: ";
                boolean left = 7 - line < limit;
                CHECK.due(call + "rows", left ? 1 : 0, verses.line(line, 5));
                CHECK.due(call + "makeLine()", left ? 1 : EdgeVerses.NONE, verses.makeLine(line));
            }
            CHECK.due("lines of limit " + limit, Math.min(limit, 8), verses.word(0, 4));
            CHECK.due("used up at limit " + limit, limit <= 8 ? 1 : 0, verses.count(7));
        }
        EdgeVerses each = poem("..", "aa/bb", "a", "b*9");
        CHECK.due("line 0", 2, each.makeLine(0));
        CHECK.due("the first word of the row is used up", EdgeVerses.NONE, each.makeLine(1));
        each.setLimit(0, 9);
        each.setLimit(1, 1);
        CHECK.due("the last word of the row is used up", EdgeVerses.NONE, each.makeLine(1));
        each.setLimit(1, 2);
        CHECK.due("both are left", 2, each.makeLine(1));
    }

    /** "(all lines but this one count)" */
    private static void allLinesButThisOneCount() {
        EdgeVerses verses = poem("..", "aa/aa", "a-a");
        CHECK.due("line 0", 1, verses.makeLine(0));
        CHECK.due("line 0, which uses the word up itself", 1, verses.makeLine(0));
        CHECK.due("rows for line 0", 1, verses.line(0, 5));
        CHECK.due("rows for line 1", 0, verses.line(1, 5));
        CHECK.due("line 1", EdgeVerses.NONE, verses.makeLine(1));
        verses.clearLine(0);
        CHECK.due("line 1, when line 0 is cleared", 1, verses.makeLine(1));
        CHECK.due("line 0, when line 1 uses it", EdgeVerses.NONE, verses.makeLine(0));
        CHECK.due("the last line, which uses the word up itself", 1, verses.makeLine(1));
    }

    private static void found(String name, String due, EdgeVerses verses) {
        int words = due.isEmpty() ? EdgeVerses.NONE : due.split(" ").length;
        CHECK.due("makeLine(0): " + name, words, verses.makeLine(0));
        CHECK.due(name, due + "/", Verses.poem(verses));
    }

    /** "fewer bends first" */
    private static void fewerBendsFirst() {
        found("no bend and three words, ahead of one and two", "ax y b",
                poem(".'..", "a/b", "'a", "'c-c-b", "a-'x", "y", "b"));
        found("no bend and eleven words, ahead of one and nine", "ax" + " y".repeat(10),
                poem(".'..........", "a/y", "'a", "'p-q-q-q", "y", "a-'x"));
        found("one bend and nine words, where that is all", "a pqqq" + " y".repeat(7),
                poem(".'..........", "a/y", "'a", "'p-q-q-q", "y"));
        // The two rows have no place in common between two words: a bend can't outweigh more words.
        String[] words = {"a", "'ax-x", "p-p-p-'p", "y", "y-y-y"};
        found("no bend and nine words, ahead of one and four", "axx a a axx a a axx a y",
                poem("'...'...'...", "a/y", words));
        missed("no bend and nine words, ahead of one and four", "axx a a axx a a axx a a",
                poem("'...'...'...", "a/z", words));
        found("one bend and four words, where that is all", "a pppp pppp yyy",
                poem("'...'...'...", "a/y", "a", "p-p-p-'p", "y", "y-y-y"));
        found("one bend ahead of two, of a higher number", "ay b",
                poem("..", "a/b", "'ax", "'b", "ay"));
        found("two bends ahead of three", "a c c a", poem("....", "a/a", "'a", "'b", "c"));
        found("twelve bends, where there is no other", "b" + " a".repeat(10) + " b",
                poem("............", "b/b", "'a", "'b"));
    }

    /** "of the same number of bends fewer words" */
    private static void fewerWordsThen() {
        found("one word ahead of two", "abcb", poem("....", "a/b", "a-b", "a-b-c-b"));
        found("two words ahead of three", "ab ccb", poem(".....", "a/b", "a-b", "c", "c-c-b"));
        found("three words ahead of twelve", "axxb axxb axxb",
                poem("............", "a/b", "ab", "a-x-x-b"));
        found("eleven words ahead of twelve", "ab ".repeat(10) + "axb",
                poem("..........'.", "a/b", "ab", "'pb", "'a-xb"));
        found("twelve words, where there is no other", "ab ".repeat(10) + "pb ab",
                poem("..........'.", "a/b", "ab", "'pb"));
    }

    /**
     * "then the row whose first word has the lower number, then the second one, and so on": two rows
     * of eleven words without bends; they differ first at the place ahead of the one strong beat.
     */
    private static void firstDifferenceAtEachPlace() {
        for (int strong = 1; strong <= 10; strong++) {
            String metre = ".".repeat(strong) + "'" + ".".repeat(11 - strong);
            String ahead = "ab ".repeat(strong - 1);
            String two = ahead + "aqb" + " ab".repeat(11 - strong);
            String one = ahead + "ab apb" + " ab".repeat(10 - strong);
            found("lower word of two syllables at place " + (strong - 1), two,
                    poem(metre, "a/b", "a-'qb", "ab", "'a-pb"));
            found("lower word of one syllable at place " + (strong - 1), one,
                    poem(metre, "a/b", "ab", "a-'qb", "'a-pb"));
        }
        String ahead = "a" + " a".repeat(10);
        found("the twelfth word", ahead + " b", poem("............", "a/b", "a", "b", "cb"));
        found("the twelfth word, added the other way", ahead + " cb",
                poem("............", "a/b", "a", "cb", "b"));
    }

    /** makeLine: "NONE if there is none (the line stays as it is then)" */
    private static void noRow() {
        found("no words", "", new EdgeVerses());
        found("no word begins so", "", poem("..", "a/b", "b", "c-b"));
        found("no word ends so", "", poem("..", "a/b", "a", "a-c"));
        found("one syllable too few", "", poem("...", "a/b", "a-b"));
        found("one syllable too many", "", poem("..", "a/b", "a-c-b"));
        found("a stress is wrong", "", poem(".'", "a/b", "a-b"));
        EdgeVerses verses = poem("..", "aa/aa", "a");
        verses.makeLine(1);
        CHECK.due("what is left is not enough", EdgeVerses.NONE, verses.makeLine(0));
        CHECK.due("the lines stay as they are", "/a a/", Verses.poem(verses));
    }

    /** "the metre": of 2 to 12 beats now; nothing of a search in another metre is left. */
    private static void metreThatBecomesShorterAndLonger() {
        for (int longer = 3; longer <= 12; longer++) {
            for (int shorter = 2; shorter < longer; shorter++) {
                EdgeVerses verses = poem(".".repeat(longer), "a/b", "a-'c", "'b", "c", "a", "d-d*2");
                String call = longer + " beats, then " + shorter;
                CHECK.due(call + ": longer line", true, verses.makeLine(0) > 1);
                CHECK.due(call + ": longer near miss", true, verses.nearMiss(0, 0) >= 0);
                verses.setMetre(longer, (1 << longer) - 1);
                verses.makeLine(0);
                verses.nearMiss(0, 0);
                sameAsInANewObject(call, verses, shorter);
                sameAsInANewObject(call + ", then " + longer, verses, longer);
            }
        }
        EdgeVerses none = poem("....", "a/b", "a-x-b", "x-x-b");
        CHECK.due("no line of four beats", EdgeVerses.NONE, none.makeLine(0));
        CHECK.due("no near miss of four beats", EdgeVerses.NONE, none.nearMiss(0, 0));
        none.setMetre(3, 0);
        CHECK.due("a line of three beats", 1, none.makeLine(0));
        CHECK.due("a near miss of three beats", 1, none.nearMiss(0, 0));
        CHECK.due("rows of three beats", 1, none.line(0, 5));
    }

    private static void sameAsInANewObject(String call, EdgeVerses verses, int beats) {
        EdgeVerses fresh = poem(".".repeat(beats), "a/b", "a-'c", "'b", "c", "a", "d-d*2");
        verses.setMetre(beats, 0);
        CHECK.due(call + ": near miss", Verses.nearMiss(fresh, 0), Verses.nearMiss(verses, 0));
        CHECK.due(call + ": rows", fresh.line(0, 5), verses.line(0, 5));
        CHECK.due(call + ": makeLine(0)", fresh.makeLine(0), verses.makeLine(0));
        CHECK.due(call + ": poem", Verses.poem(fresh), Verses.poem(verses));
    }

    /** makeLine: "This is an act (also if the same words are found again)." */
    private static void lineThatIsFoundAgain() {
        EdgeVerses verses = Verses.withWords("a");
        for (int states = 2; states <= 5; states++) {
            CHECK.due("makeLine(0)", 4, verses.makeLine(0));
            CHECK.due("states", states, verses.count(10));
        }
        CHECK.due("makeLine(0) with a full history", 4, verses.makeLine(0));
        CHECK.due("states", 5, verses.count(10));
        for (int left = 4; left >= 1; left--) {
            CHECK.due("undo()", left, verses.undo());
            CHECK.due("poem", "a a a a/", Verses.poem(verses));
        }
        CHECK.due("the last undo()", 0, verses.undo());
        CHECK.due("poem of the state after the word", "/", Verses.poem(verses));
        CHECK.due("words of this state", 1, verses.count(0));
    }

    /** "UNKNOWN", for the lines of the least and of the greatest poem. */
    private static void linesThatAreNone() {
        for (int lines : new int[] {1, 8}) {
            String edge = "a".repeat(lines);
            EdgeVerses verses = poem("..", edge + "/" + edge, "a*9");
            CHECK.due("makeLine(0)", 2, verses.makeLine(0));
            CHECK.due("makeLine(" + (lines - 1) + ")", 2, verses.makeLine(lines - 1));
            for (int line : Bounds.outside(0, lines - 1)) {
                CHECK.due("makeLine(" + line + ")", EdgeVerses.UNKNOWN, verses.makeLine(line));
                CHECK.due("clearLine(" + line + ")", EdgeVerses.UNKNOWN, verses.clearLine(line));
                CHECK.due("nearMiss(" + line + ", 0)", EdgeVerses.UNKNOWN, verses.nearMiss(line, 0));
            }
            CHECK.due("clearLine(" + (lines - 1) + ")", 2, verses.clearLine(lines - 1));
        }
    }

    /** make: "NONE if none is" */
    private static void makeWithNothingToMake() {
        CHECK.due("no words", EdgeVerses.NONE, new EdgeVerses().make());
        CHECK.due("no row for any of eight lines", EdgeVerses.NONE,
                poem("..", "aaaaaaaa/aaaaaaaa", "b-b*9", "'a-a", "a-'a", "a-a-a").make());
        EdgeVerses verses = poem("..", "aaaaaaaa/aaaaaaaa", "a-a*8");
        CHECK.due("eight lines", 8, verses.make());
        int states = verses.count(10);
        CHECK.due("all are made", EdgeVerses.NONE, verses.make());
        CHECK.due("states after NONE", states, verses.count(10));
        EdgeVerses seven = poem("..", "aaaaaaaa/aaaaaaaa", "a-a*7");
        CHECK.due("seven lines", 7, seven.make());
        CHECK.due("the one that is empty can't be made", EdgeVerses.NONE, seven.make());
    }

    /** make: "Returns the number of lines that are made by this" */
    private static void makeOneLineAndAllLines() {
        for (int lines = 1; lines <= 8; lines++) {
            String edge = "a".repeat(lines);
            EdgeVerses verses = poem("..", edge + "/" + edge, "a-a*9");
            int states = verses.count(10);
            CHECK.due("make() of " + lines + " lines", lines, verses.make());
            CHECK.due("lines that are made", lines, verses.count(2));
            CHECK.due("make() is one act", states + 1, verses.count(10));
            verses.clearLine(lines - 1);
            CHECK.due("make() of the last line alone", 1, verses.make());
            verses.undo();
            verses.undo();
            verses.undo();
            CHECK.due("lines when make() is undone", 0, verses.count(2));
        }
    }

    /** "makes all lines that are empty, from the first one on" */
    private static void fromTheFirstOneOn() {
        EdgeVerses verses = poem("..", "aaa/aaa", "a-a");
        CHECK.due("one line of three", 1, verses.make());
        CHECK.due("it is the first one", "aa///", Verses.poem(verses));
        verses.clearLine(0);
        verses.makeLine(1);
        CHECK.due("no line, when the second one is made", EdgeVerses.NONE, verses.make());
        CHECK.due("the lines that are made stay", "/aa//", Verses.poem(verses));
        EdgeVerses better = poem("..", "aaa/aaa", "a*9");
        better.makeLine(1);
        Verses.addWord(better, "a-a*9");
        CHECK.due("two lines of three", 2, better.make());
        CHECK.due("a line that is made stays, though a better one is found", "aa/a a/aa/",
                Verses.poem(better));
    }

    /** "a line for which there is none stays empty" */
    private static void aLineForWhichThereIsNone() {
        CHECK.due("the first one", "/aa/aa/", made(poem("..", "xaa/aaa", "a-a*9")));
        CHECK.due("the middle one", "aa//aa/", made(poem("..", "axa/aaa", "a-a*9")));
        CHECK.due("the last one", "aa/aa//", made(poem("..", "aaa/aax", "a-a*9")));
        CHECK.due("all but the last one", "///////aa/", made(poem("..", "xxxxxxxa/aaaaaaaa", "a-a*9")));
        CHECK.due("the first one and the last one", "/aa//", made(poem("..", "xaa/aax", "a-a*9")));
    }

    private static String made(EdgeVerses verses) {
        verses.make();
        return Verses.poem(verses);
    }

    /** "each by such a search with what is left then" */
    private static void whatIsLeftThen() {
        CHECK.due("limit 2 on three lines", "aa/aa//", made(poem("..", "aaa/aaa", "a-a*2")));
        CHECK.due("first the better one, then what is left", "axa/aya/a a//",
                made(poem("..", "aaaa/aaaa", "a", "a-xa", "a-ya")));
        CHECK.due("an early line takes what a late one needs", "a b//",
                made(poem("..", "aa/bb", "a", "b")));
        EdgeVerses verses = poem("..", "aaa/aaa", "a-a*2");
        verses.makeLine(2);
        CHECK.due("a line behind counts, too", "aa//aa/", made(verses));
    }

    /** clearLine: "Returns the number of words that it had; UNKNOWN; NONE if it is empty." */
    private static void clearedLines() {
        for (int words = 2; words <= 12; words++) {
            EdgeVerses verses = poem(".".repeat(words), "aa/aa", "a*9");
            CHECK.due("clearLine(0) of a new poem", EdgeVerses.NONE, verses.clearLine(0));
            verses.make();
            CHECK.due("clearLine(1) of " + words, words, verses.clearLine(1));
            CHECK.due("clearLine(1) again", EdgeVerses.NONE, verses.clearLine(1));
            CHECK.due("words of line 0", words, verses.line(0, 0));
            CHECK.due("lines that use a", 1, verses.word(0, 4));
        }
        CHECK.due("clearLine() of a single word", 1, cleared("a-b"));
    }

    private static int cleared(String word) {
        EdgeVerses verses = poem("..", "a/b", word);
        verses.make();
        return verses.clearLine(0);
    }

    /** Words of one syllable: so many from a to b, from a to x, from x to b, and from x to x. */
    private static EdgeVerses rows(int beats, int both, int first, int last, int neither) {
        EdgeVerses verses = new EdgeVerses();
        int words = both + first + last + neither;
        for (int word = 0; word < words; word++) {
            boolean begins = word < both + first;
            boolean ends = word < both || word >= both + first && word < both + first + last;
            String middle = "" + (char) ('a' + word % 26) + (word < 26 ? "" : "z");
            Verses.addWord(verses, (begins ? "a" : "x") + middle + (ends ? "b" : "x"));
        }
        verses.setMetre(beats, 0);
        Verses.setEdges(verses, "a/b");
        return verses;
    }

    /** line(.., 5): "the number of all rows of words ... (1000 if there are more)" */
    private static void rowsUpToAThousand() {
        CHECK.due("no row", 0, rows(2, 0, 1, 0, 5).line(0, 5));
        CHECK.due("one row", 1, rows(2, 0, 1, 1, 5).line(0, 5));
        CHECK.due("one row of one word twelve times", 1, rows(12, 1, 0, 0, 0).line(0, 5));
        CHECK.due("512 rows", 512, rows(9, 2, 0, 0, 0).line(0, 5));
        CHECK.due("999 rows", 999, rows(2, 24, 3, 13, 0).line(0, 5));
        CHECK.due("1000 rows", 1000, rows(2, 25, 0, 15, 0).line(0, 5));
        CHECK.due("1000 rows of three words", 1000, rows(3, 10, 0, 0, 0).line(0, 5));
        CHECK.due("1001 rows", 1000, rows(3, 5, 2, 6, 0).line(0, 5));
        CHECK.due("1014 rows", 1000, rows(2, 25, 1, 14, 0).line(0, 5));
        CHECK.due("1600 rows", 1000, rows(2, 40, 0, 0, 0).line(0, 5));
    }

    /** "(1000 if there are more)": also where an int or a long can't hold their number. */
    private static void moreRowsThanNumbers() {
        CHECK.due("2 to the power 12", 1000, rows(12, 2, 0, 0, 0).line(0, 5));
        CHECK.due("2 to the power 32", 1000, rows(8, 16, 0, 0, 0).line(0, 5));
        CHECK.due("2 to the power 35", 1000, rows(7, 32, 0, 0, 0).line(0, 5));
        CHECK.due("40 to the power 12", 1000, rows(12, 40, 0, 0, 0).line(0, 5));
        CHECK.due("40 to the power 10", 1000, rows(12, 0, 1, 1, 38).line(0, 5));
        CHECK.due("40 to the power 11, but none begins right", 0, rows(12, 0, 0, 40, 0).line(0, 5));
        CHECK.due("40 to the power 11, but none ends right", 0, rows(12, 0, 40, 0, 0).line(0, 5));
    }

    /** "among which a search for this line chooses now" */
    private static void rowsAmongWhatIsLeftNow() {
        EdgeVerses verses = poem("..", "aa/aa", "a", "a-a");
        CHECK.due("rows for line 0", 2, verses.line(0, 5));
        CHECK.due("rows for line 1", 2, verses.line(1, 5));
        verses.makeLine(0);
        CHECK.due("poem", "aa//", Verses.poem(verses));
        CHECK.due("rows for line 0, with its own word", 2, verses.line(0, 5));
        CHECK.due("rows for line 1, without that word", 1, verses.line(1, 5));
        verses.makeLine(1);
        CHECK.due("rows for line 0, without the word of line 1", 1, verses.line(0, 5));
        verses.setLimit(0, 2);
        CHECK.due("rows for line 0, with a higher limit", 2, verses.line(0, 5));
        verses.setMetre(3, 0);
        CHECK.due("rows for line 0 in another metre", 3, verses.line(0, 5));
        Verses.setEdges(verses, "b/a");
        CHECK.due("rows for line 0 with other edges", 0, verses.line(0, 5));
    }

    private static void missed(String name, String due, EdgeVerses verses) {
        CHECK.due("near miss: " + name, due, Verses.nearMiss(verses, 0));
    }

    /** "with one of the two letters wrong (the first word begins otherwise, or ..., and not both)" */
    private static void oneLetterWrongAndNotBoth() {
        missed("a word that begins otherwise", "cb", poem("..", "a/b", "c-b"));
        missed("a word that ends otherwise", "ac", poem("..", "a/b", "a-c"));
        missed("a word with both letters right", "", poem("..", "a/b", "a-b"));
        missed("a word with both letters wrong", "", poem("..", "a/b", "b-a"));
        missed("a row that begins otherwise", "b" + " b".repeat(11),
                poem("............", "a/b", "b"));
        missed("a row that ends otherwise", "a" + " a".repeat(11),
                poem("............", "a/b", "a"));
        missed("rows with both letters right", "", poem("............", "a/a", "a"));
        missed("rows with both letters wrong", "", poem("............", "a/b", "c"));
        missed("a row of the metre alone", "", poem("...", "a/b", "c-b", "a-'x-c", "c-c-c-b"));
        missed("no words", "", poem("..", "a/b"));
        EdgeVerses made = poem("..", "a/b", "a-b", "a-c");
        made.makeLine(0);
        missed("a line that is made has one, too", "ac", made);
    }

    /** "the best one is the first one by the same order" */
    private static void bestNearMissByTheSameOrder() {
        missed("no bend and three words, ahead of one and two", "ax y y",
                poem(".'..", "a/b", "'a", "'c-c-c", "a-'x", "y"));
        missed("fewer words, that begin otherwise", "cccb", poem("....", "a/b", "a", "c-c-c-b"));
        missed("fewer words, that end otherwise", "accc", poem("....", "a/b", "b", "a-c-c-c"));
        missed("the lower first number, though the second one is higher", "c xb",
                poem("..", "a/b", "c", "a", "xb"));
        String rest = " a".repeat(10);
        missed("the last word ends otherwise, and the first number is lower", "a" + rest + " c",
                poem("............", "a/a", "a", "c"));
        missed("the first word begins otherwise, and its number is lower", "c" + " c".repeat(10) + " a",
                poem("............", "a/a", "c", "a"));
        missed("the twelfth word of the lower number", "a" + rest + " c",
                poem("............", "a/a", "a", "c", "b"));
    }

    /** nearMiss: "UNKNOWN; BAD_VALUE if place is negative; NONE if ... it has not so many words" */
    private static void placesOfANearMiss() {
        for (int words = 2; words <= 12; words++) {
            EdgeVerses verses = poem(".".repeat(words), "ax/bx", "c", "a");
            int last = words - 1;
            CHECK.due("the first of " + words, 1, verses.nearMiss(0, 0));
            CHECK.due("the last of " + words, 0, verses.nearMiss(0, last));
            CHECK.due("one more than " + words, EdgeVerses.NONE, verses.nearMiss(0, last + 1));
            CHECK.due("no near miss of " + words, EdgeVerses.NONE, verses.nearMiss(1, 0));
        }
        EdgeVerses verses = poem("..", "ax/bx", "a-c");
        CHECK.due("a single word", 0, verses.nearMiss(0, 0));
        for (int place : Bounds.from(1)) {
            CHECK.due("nearMiss(0, " + place + ")", EdgeVerses.NONE, verses.nearMiss(0, place));
            CHECK.due("nearMiss(1, " + place + ")", EdgeVerses.NONE, verses.nearMiss(1, place));
        }
        for (int place : Bounds.negative()) {
            CHECK.due("nearMiss(0, " + place + ")", EdgeVerses.BAD_VALUE, verses.nearMiss(0, place));
            CHECK.due("none: nearMiss(1, " + place + ")", EdgeVerses.BAD_VALUE, verses.nearMiss(1, place));
            CHECK.due("nearMiss(2, " + place + ")", EdgeVerses.UNKNOWN, verses.nearMiss(2, place));
            CHECK.due("nearMiss(-1, " + place + ")", EdgeVerses.UNKNOWN, verses.nearMiss(-1, place));
        }
    }

    /** nearMiss: "with what is left as for makeLine()" */
    private static void nearMissOfWhatIsLeft() {
        EdgeVerses verses = poem("..", "aa/ab", "a-a");
        CHECK.due("line 1, the word is left", 0, verses.nearMiss(1, 0));
        CHECK.due("line 0, no letter is wrong", EdgeVerses.NONE, verses.nearMiss(0, 0));
        verses.makeLine(0);
        CHECK.due("line 1, the word is used up", EdgeVerses.NONE, verses.nearMiss(1, 0));
        verses.setLimit(0, 2);
        CHECK.due("line 1, with a higher limit", 0, verses.nearMiss(1, 0));
        verses.setLimit(0, 1);
        Verses.addWord(verses, "b");
        Verses.addWord(verses, "a");
        CHECK.due("line 1, with other words that are left", 1, verses.nearMiss(1, 0));
        CHECK.due("the line itself doesn't count", 1, ownLine().nearMiss(0, 0));
    }

    /** One line "a b", which uses up both its words; "b b" misses it. */
    private static EdgeVerses ownLine() {
        EdgeVerses verses = poem("..", "a/b", "a-c-c", "b", "a");
        CHECK.due("makeLine(0)", 2, verses.makeLine(0));
        return verses;
    }
}

/** Promise 19: the best near miss. */
public final class NearMissTest {
    private static final Check CHECK = new Check();

    public static void main(String[] args) {
        oneLetterWrongAndNotBoth();
        sameOrderAsForLines();
        bestOfBothKinds();
        withWhatIsLeft();
        answers();
        nothingIsChanged();
        CHECK.finish();
    }

    private static String missed(String metre, String edges, String... words) {
        EdgeVerses verses = Verses.withWords(words);
        Verses.setMetre(verses, metre);
        Verses.setEdges(verses, edges);
        return Verses.nearMiss(verses, 0);
    }

    private static void oneLetterWrongAndNotBoth() {
        CHECK.due("first wrong", "cb", missed("..", "a/b", "c-b"));
        CHECK.due("last wrong", "ac", missed("..", "a/b", "a-c"));
        CHECK.due("both right", "", missed("..", "a/b", "a-b"));
        CHECK.due("both wrong", "", missed("..", "a/b", "c-d"));
        CHECK.due("both right in a row", "", missed("..", "a/b", "ab"));
        CHECK.due("both wrong in a row", "", missed("..", "a/b", "ba"));
        CHECK.due("first wrong in a row", "b b", missed("..", "a/b", "b", "c"));
        CHECK.due("last wrong in a row", "a c", missed("..", "a/b", "c", "a"));
        CHECK.due("a line comes first, but is no near miss", "a a", missed("..", "a/b", "a-b", "a"));
        CHECK.due("no words", "", missed("..", "a/b"));
        CHECK.due("no row of the metre", "", missed("..", "a/b", "'a-c", "c-'b", "a-c-c"));
    }

    private static void sameOrderAsForLines() {
        CHECK.due("fewer bends first", "ax a", missed("'.", "a/b", "a", "c", "'ax", "ay"));
        CHECK.due("fewer words then", "axyz", missed("....", "a/b", "a", "ax", "a-x-y-z"));
        CHECK.due("lower numbers then", "az az", missed("..", "a/b", "az", "ay"));
        CHECK.due("lower second number", "ay x", missed("..", "a/b", "x", "ay"));
    }

    private static void bestOfBothKinds() {
        CHECK.due("last wrong has fewer bends", "ax", missed("'.", "a/b", "c", "b", "'a-x"));
        CHECK.due("first wrong has fewer bends", "xb", missed("'.", "a/b", "a", "c", "'x-b"));
        CHECK.due("first wrong has fewer words", "cb", missed("..", "a/b", "a", "c-b"));
        CHECK.due("last wrong has fewer words", "ac", missed("..", "a/b", "b", "a-c"));
        CHECK.due("last wrong has fewer bends and more words", "ax c c",
                missed("'...", "a/b", "c", "y-y-b", "'a-x"));
        CHECK.due("first wrong has the lower number", "b b", missed("..", "a/b", "b", "a"));
        CHECK.due("first wrong has the lower first number", "c xb", missed("..", "a/b", "c", "a", "xb"));
        CHECK.due("last wrong has the lower number", "a a", missed("..", "a/b", "a", "b"));
    }

    private static void withWhatIsLeft() {
        EdgeVerses verses = Verses.withWords("a", "b", "c*2");
        Verses.setMetre(verses, "..");
        Verses.setEdges(verses, "aa/bb");
        verses.makeLine(0);
        CHECK.due("poem", "a b//", Verses.poem(verses));
        CHECK.due("the words of another line are used up", "", Verses.nearMiss(verses, 1));
        CHECK.due("those of this line are not", "a a", Verses.nearMiss(verses, 0));
        verses.setLimit(0, 2);
        CHECK.due("with a higher limit", "a a", Verses.nearMiss(verses, 1));
        verses.setLimit(0, 1);
        verses.setLimit(1, 2);
        CHECK.due("with a higher limit of b", "b b", Verses.nearMiss(verses, 1));
    }

    private static void answers() {
        EdgeVerses verses = Verses.withWords("c", "a");
        verses.setMetre(12, 0);
        Verses.setEdges(verses, "ab/bc");
        int[] unknown = {-1, 2, 8, Integer.MIN_VALUE, Integer.MAX_VALUE};
        for (int line : unknown) {
            CHECK.due("nearMiss(" + line + ", 0)", EdgeVerses.UNKNOWN, verses.nearMiss(line, 0));
            CHECK.due("nearMiss(" + line + ", -1)", EdgeVerses.UNKNOWN, verses.nearMiss(line, -1));
        }
        CHECK.due("nearMiss(0, -1)", EdgeVerses.BAD_VALUE, verses.nearMiss(0, -1));
        CHECK.due("nearMiss(0, MIN)", EdgeVerses.BAD_VALUE, verses.nearMiss(0, Integer.MIN_VALUE));
        CHECK.due("nearMiss(0, 0)", 1, verses.nearMiss(0, 0));
        CHECK.due("nearMiss(0, 11)", 0, verses.nearMiss(0, 11));
        CHECK.due("nearMiss(0, 12)", EdgeVerses.NONE, verses.nearMiss(0, 12));
        CHECK.due("nearMiss(0, MAX)", EdgeVerses.NONE, verses.nearMiss(0, Integer.MAX_VALUE));
        CHECK.due("nearMiss(1, 0)", 0, verses.nearMiss(1, 0));
        Verses.setEdges(verses, "y/z");
        CHECK.due("no near miss, -1", EdgeVerses.BAD_VALUE, verses.nearMiss(0, -1));
        CHECK.due("no near miss, 0", EdgeVerses.NONE, verses.nearMiss(0, 0));
    }

    private static void nothingIsChanged() {
        EdgeVerses verses = Verses.withWords("a*2", "c*2");
        Verses.setEdges(verses, "ac/aa");
        verses.make();
        String before = Verses.told(verses);
        int states = verses.count(10);
        CHECK.due("nearMiss(0, 0)", 0, verses.nearMiss(0, 0));
        CHECK.due("nearMiss(1, 3)", 0, verses.nearMiss(1, 3));
        CHECK.due("told then", before, Verses.told(verses));
        CHECK.due("history then", states, verses.count(10));
    }
}

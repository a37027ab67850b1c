import java.util.function.Supplier;

/**
 * "A call that reports an error or NONE changes nothing": each error and each NONE of each promise,
 * in a state where the text, the history and a snapshot hold something, too.
 */
public final class RefusedCallsTest {
    private static final Check CHECK = new Check();

    public static void main(String[] args) {
        for (Twins twins : new Twins[] {twins("new object", EdgeVerses::new),
            twins("full history", RefusedCallsTest::fullHistory),
            twins("short history", RefusedCallsTest::shortHistory)}) {
            badArguments(twins);
        }
        newObject(twins("new object", EdgeVerses::new));
        poem(twins("full history", RefusedCallsTest::fullHistory));
        poem(twins("short history", RefusedCallsTest::shortHistory));
        noStateLeft();
        tellingCalls();
        texts();
        fullStore();
        fullText();
        CHECK.finish();
    }

    private static Twins twins(String name, Supplier<EdgeVerses> start) {
        return new Twins(CHECK, name, start);
    }

    /**
     * Two lines are made of the word a, the third one can't be made; five states in the history, a
     * snapshot in slot 0, none in slot 1, and the text of a word.
     */
    private static EdgeVerses fullHistory() {
        EdgeVerses verses = Verses.withWords("'a*2", "b", "c-'d*9");
        verses.keep(0);
        Verses.setMetre(verses, ".'.");
        Verses.setEdges(verses, "aab/aax");
        CHECK.due("lines that are made", 2, verses.make());
        verses.setLimit(2, 8);
        CHECK.due("full history", 5, verses.count(10));
        return Verses.typed(verses, "e-'f*3");
    }

    /** The same state with three states in the history: one that is recorded besides is told. */
    private static EdgeVerses shortHistory() {
        EdgeVerses verses = fullHistory();
        verses.clearLine(0);
        verses.clearLine(1);
        verses.undo();
        CHECK.due("short history", 3, verses.undo());
        return verses;
    }

    private static void badArguments(Twins twins) {
        for (int none : Bounds.outside(0, 2)) {
            unknownWordOrLine(twins, none);
        }
        for (int slot : new int[] {-1, 2, Integer.MIN_VALUE, Integer.MAX_VALUE}) {
            twins.unchanged("keep(" + slot + ")", EdgeVerses.UNKNOWN, verses -> verses.keep(slot));
            twins.unchanged("restore(" + slot + ")", EdgeVerses.UNKNOWN, verses -> verses.restore(slot));
        }
        for (int[] metre : new int[][] {{1, 0}, {13, 0}, {2, 4}, {12, 4096}, {3, -1},
            {Integer.MAX_VALUE, 1}, {4, Integer.MIN_VALUE}}) {
            twins.unchanged("setMetre(" + metre[0] + ", " + metre[1] + ")", EdgeVerses.BAD_VALUE,
                    verses -> verses.setMetre(metre[0], metre[1]));
        }
        for (int what : new int[] {-1, 12, Integer.MIN_VALUE, Integer.MAX_VALUE}) {
            twins.unchanged("count(" + what + ")", EdgeVerses.BAD_VALUE, verses -> verses.count(what));
            twins.unchanged("line(0, " + what + ")", EdgeVerses.BAD_VALUE, verses -> verses.line(0, what));
        }
        twins.unchanged("wordAt(0, -1)", EdgeVerses.BAD_VALUE, verses -> verses.wordAt(0, -1));
        twins.unchanged("nearMiss(0, -1)", EdgeVerses.BAD_VALUE, verses -> verses.nearMiss(0, -1));
        twins.unchanged("poemAt(-1)", EdgeVerses.BAD_VALUE, verses -> verses.poemAt(-1));
        twins.unchanged("poemAt(99)", EdgeVerses.NONE, verses -> verses.poemAt(99));
        twins.unchanged("wordAt(0, 12)", EdgeVerses.NONE, verses -> verses.wordAt(0, 12));
        twins.unchanged("nearMiss(0, 12)", EdgeVerses.NONE, verses -> verses.nearMiss(0, 12));
        twins.unchanged("find()", EdgeVerses.NONE, EdgeVerses::find);
        twins.unchanged("setEdges()", EdgeVerses.NOT_POSSIBLE, EdgeVerses::setEdges);
        twins.unchanged("restore(1)", EdgeVerses.NONE, verses -> verses.restore(1));
    }

    private static void unknownWordOrLine(Twins twins, int none) {
        int unknown = EdgeVerses.UNKNOWN;
        twins.unchanged("removeWord(" + none + ")", unknown, verses -> verses.removeWord(none));
        twins.unchanged("setLimit(" + none + ", 5)", unknown, verses -> verses.setLimit(none, 5));
        twins.unchanged("makeLine(" + none + ")", unknown, verses -> verses.makeLine(none));
        twins.unchanged("clearLine(" + none + ")", unknown, verses -> verses.clearLine(none));
        twins.unchanged("word(" + none + ", 0)", unknown, verses -> verses.word(none, 0));
        twins.unchanged("letterAt(" + none + ", 0)", unknown, verses -> verses.letterAt(none, 0));
        twins.unchanged("line(" + none + ", 5)", unknown, verses -> verses.line(none, 5));
        twins.unchanged("wordAt(" + none + ", 0)", unknown, verses -> verses.wordAt(none, 0));
        twins.unchanged("nearMiss(" + none + ", 0)", unknown, verses -> verses.nearMiss(none, 0));
    }

    private static void newObject(Twins twins) {
        twins.unchanged("addWord()", -100, EdgeVerses::addWord);
        twins.unchanged("undo()", EdgeVerses.NONE, EdgeVerses::undo);
        twins.unchanged("restore(0)", EdgeVerses.NONE, verses -> verses.restore(0));
        twins.unchanged("make()", EdgeVerses.NONE, EdgeVerses::make);
        twins.unchanged("makeLine(0)", EdgeVerses.NONE, verses -> verses.makeLine(0));
        twins.unchanged("clearLine(0)", EdgeVerses.NONE, verses -> verses.clearLine(0));
    }

    private static void poem(Twins twins) {
        twins.unchanged("make()", EdgeVerses.NONE, EdgeVerses::make);
        twins.unchanged("makeLine(2)", EdgeVerses.NONE, verses -> verses.makeLine(2));
        twins.unchanged("clearLine(2)", EdgeVerses.NONE, verses -> verses.clearLine(2));
        twins.unchanged("wordAt(2, 0)", EdgeVerses.NONE, verses -> verses.wordAt(2, 0));
        twins.unchanged("setLimit(0, 1)", EdgeVerses.NOT_POSSIBLE, verses -> verses.setLimit(0, 1));
        twins.unchanged("setLimit(0, 2)", EdgeVerses.NONE, verses -> verses.setLimit(0, 2));
        for (int limit : new int[] {0, 10, Integer.MIN_VALUE, Integer.MAX_VALUE}) {
            twins.unchanged("setLimit(0, " + limit + ")", EdgeVerses.BAD_VALUE,
                    verses -> verses.setLimit(0, limit));
        }
        for (int what : new int[] {-1, 8, Integer.MIN_VALUE, Integer.MAX_VALUE}) {
            twins.unchanged("word(0, " + what + ")", EdgeVerses.BAD_VALUE, verses -> verses.word(0, what));
        }
        twins.unchanged("letterAt(0, -1)", EdgeVerses.BAD_VALUE, verses -> verses.letterAt(0, -1));
        twins.unchanged("letterAt(0, 1)", EdgeVerses.NONE, verses -> verses.letterAt(0, 1));
    }

    /** The history is empty, since the states of the acts that made the poem were dropped. */
    private static EdgeVerses emptyHistory() {
        EdgeVerses verses = fullHistory();
        for (int act = 0; act < 5; act++) {
            verses.setMetre(2 + act, 0);
        }
        for (int left = 4; left >= 0; left--) {
            CHECK.due("undo()", left, verses.undo());
        }
        CHECK.due("lines that are made", 2, verses.count(2));
        return verses;
    }

    private static void noStateLeft() {
        Twins twins = twins("empty history", RefusedCallsTest::emptyHistory);
        twins.unchanged("undo()", EdgeVerses.NONE, EdgeVerses::undo);
        twins.unchanged("make()", EdgeVerses.NONE, EdgeVerses::make);
        twins.unchanged("clearLine(2)", EdgeVerses.NONE, verses -> verses.clearLine(2));
        twins.unchanged("setLimit(0, 1)", EdgeVerses.NOT_POSSIBLE, verses -> verses.setLimit(0, 1));
        twins.unchanged("removeWord(3)", EdgeVerses.UNKNOWN, verses -> verses.removeWord(3));
        twins.unchanged("setEdges()", EdgeVerses.NOT_POSSIBLE, EdgeVerses::setEdges);
    }

    /** Calls that tell without an error change nothing either: those that search above all. */
    private static void tellingCalls() {
        Twins twins = twins("short history", RefusedCallsTest::shortHistory);
        twins.unchanged("line(0, 5)", 2, verses -> verses.line(0, 5));
        twins.unchanged("line(2, 5)", 0, verses -> verses.line(2, 5));
        twins.unchanged("nearMiss(0, 0)", 2, verses -> verses.nearMiss(0, 0));
        twins.unchanged("word(2, 7)", 1, verses -> verses.word(2, 7));
        twins.unchanged("letterAt(2, 1)", 'd', verses -> verses.letterAt(2, 1));
        twins.unchanged("wordAt(1, 2)", 0, verses -> verses.wordAt(1, 2));
        twins.unchanged("poemAt(0)", 'a', verses -> verses.poemAt(0));
        twins.unchanged("count(9)", 13, verses -> verses.count(9));
        Twins word = twins("text cd", () -> Verses.typed(shortHistory(), "cd"));
        word.unchanged("find()", 2, EdgeVerses::find);
    }

    /** Texts that addWord() refuses, and what they leave of a word, of its stresses and its limit. */
    private static void texts() {
        String[] texts = {"", "'", "x-", "x*", "x*0", "x*2y", "'xyzxyzxyz", "x-y-z-'x-y", "x/y",
            "abcdefgh-'i"};
        int[] faults = {0, 1, 2, 2, 2, 3, 9, 8, 1, 10};
        for (int index = 0; index < texts.length; index++) {
            String text = texts[index];
            twins("text " + text, () -> Verses.typed(fullHistory(), text))
                    .unchanged("addWord()", -100 - faults[index], EdgeVerses::addWord);
        }
        for (String text : new String[] {"a", "'a-*", "a*9", "'b", "c'd", "cd", "c-d*2", "'c-'d"}) {
            Twins twins = twins("text " + text, () -> Verses.typed(shortHistory(), text));
            twins.unchanged("setEdges()", EdgeVerses.NOT_POSSIBLE, EdgeVerses::setEdges);
        }
        for (String text : new String[] {"a", "a*9", "'b", "cd", "c-d*2", "'c-'d"}) {
            Twins twins = twins("text " + text, () -> Verses.typed(shortHistory(), text));
            twins.unchanged("addWord()", EdgeVerses.NOT_POSSIBLE, EdgeVerses::addWord);
        }
        for (String text : new String[] {"/", "a/", "/a", "ab/a", "a/ab", "a/b/", "abcdefghi/abcdefghi"}) {
            Twins twins = twins("text " + text, () -> Verses.typed(fullHistory(), text));
            twins.unchanged("setEdges()", EdgeVerses.NOT_POSSIBLE, EdgeVerses::setEdges);
        }
    }

    /** 40 words, of which the poem uses one. */
    private static EdgeVerses fullStoreAndText(String text) {
        EdgeVerses verses = Verses.withFullStore();
        CHECK.due("make()", 1, verses.make());
        return Verses.typed(verses, text);
    }

    private static void fullStore() {
        Twins twins = twins("full store", () -> fullStoreAndText("'zz-z*9"));
        twins.unchanged("addWord()", EdgeVerses.FULL, EdgeVerses::addWord);
        twins.unchanged("removeWord(40)", EdgeVerses.UNKNOWN, verses -> verses.removeWord(40));
        twins.unchanged("word(40, 0)", EdgeVerses.UNKNOWN, verses -> verses.word(40, 0));
        twins.unchanged("find()", EdgeVerses.NONE, EdgeVerses::find);
        Twins there = twins("full store, a word of it", () -> fullStoreAndText("'a-n"));
        there.unchanged("addWord()", EdgeVerses.NOT_POSSIBLE, EdgeVerses::addWord);
    }

    private static void fullText() {
        for (String text : new String[] {"x".repeat(40), "'".repeat(40), "a*2" + " ".repeat(37)}) {
            Twins twins = twins("full text " + text, () -> Verses.typed(fullHistory(), text));
            for (char character : new char[] {0, 'a', '\'', '/', 0xffff}) {
                twins.unchanged("type(" + (int) character + ")", EdgeVerses.FULL,
                        verses -> verses.type(character));
            }
        }
    }
}

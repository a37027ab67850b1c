import java.util.function.Consumer;

/**
 * Boundary cases of the history and the snapshots: 'Terms' (history), promises 12 to 14, and which
 * calls are acts. Each test stands for the sentence of the document that is quoted above it.
 */
public final class HistoryBoundaryTest {
    private static final Check CHECK = new Check();

    public static void main(String[] args) {
        atMostFiveStates();
        oldestOneIsDropped();
        undoRemovesAndRestores();
        emptyHistory();
        noStateButOfActs();
        eachActRecordsTheStateBeforeIt();
        eachActIsUndone();
        fullestState();
        twoSlots();
        slotsAreEmptyAtFirst();
        inPlaceOfWhatIsThere();
        snapshotStays();
        restoreIsAnAct();
        restoreWithAFullHistory();
        wordsOfASnapshot();
        textIsNotInAState();
        historyIsNotInAState();
        snapshotsAreNotInAState();
        CHECK.finish();
    }

    /** A new object after so many acts; each one adds a word. */
    private static EdgeVerses afterActs(int acts) {
        EdgeVerses verses = new EdgeVerses();
        for (int act = 0; act < acts; act++) {
            CHECK.due("act " + act, act, Verses.addWord(verses, "" + (char) ('a' + act)));
        }
        return verses;
    }

    /** "A history of at most 5 states is kept" */
    private static void atMostFiveStates() {
        for (int acts = 0; acts <= 26; acts++) {
            EdgeVerses verses = afterActs(acts);
            CHECK.due("states after " + acts + " acts", Math.min(acts, 5), verses.count(10));
            for (int left = Math.min(acts, 5) - 1; left >= 0; left--) {
                CHECK.due("undo() after " + acts + " acts", left, verses.undo());
                CHECK.due("states then", left, verses.count(10));
            }
            CHECK.due("one undo() more", EdgeVerses.NONE, verses.undo());
        }
    }

    /** "when one more is recorded, the oldest one is dropped" */
    private static void oldestOneIsDropped() {
        for (int acts = 5; acts <= 26; acts++) {
            EdgeVerses verses = afterActs(acts);
            for (int undone = 1; undone <= 5; undone++) {
                verses.undo();
                CHECK.due("words of " + acts + " when " + undone + " are undone", acts - undone, verses.count(0));
            }
            verses.undo();
            CHECK.due("the state before is dropped, " + acts, acts - 5, verses.count(0));
        }
    }

    /** "undo() removes and restores the latest one"; "Returns the number of states that are left". */
    private static void undoRemovesAndRestores() {
        EdgeVerses verses = afterActs(7);
        CHECK.due("undo()", 4, verses.undo());
        CHECK.due("undo()", 3, verses.undo());
        CHECK.due("an act, one state more", 0, verses.removeWord(4));
        CHECK.due("states", 4, verses.count(10));
        CHECK.due("undo() of this act", 3, verses.undo());
        CHECK.due("words", 5, verses.count(0));
        CHECK.due("undo() of the act before the two", 2, verses.undo());
        CHECK.due("words", 4, verses.count(0));
        for (int act = 0; act < 4; act++) {
            verses.removeWord(0);
        }
        CHECK.due("full again", 5, verses.count(10));
        for (int left = 4; left >= 0; left--) {
            CHECK.due("undo()", left, verses.undo());
        }
        CHECK.due("words in the end", 3, verses.count(0));
    }

    /** undo: "NONE if the history is empty" */
    private static void emptyHistory() {
        EdgeVerses verses = new EdgeVerses();
        CHECK.due("undo() of a new object", EdgeVerses.NONE, verses.undo());
        CHECK.due("states", 0, verses.count(10));
        Verses.addWord(verses, "a");
        CHECK.due("undo() of one act", 0, verses.undo());
        CHECK.due("undo() then", EdgeVerses.NONE, verses.undo());
        CHECK.due("undo() again", EdgeVerses.NONE, verses.undo());
        CHECK.due("words", 0, verses.count(0));
        Verses.addWord(verses, "b");
        CHECK.due("states after NONE and an act", 1, verses.count(10));
    }

    /** "Each call of a method that is described as an act": those of the other methods don't. */
    private static void noStateButOfActs() {
        EdgeVerses verses = Verses.typed(madePoem(), "ab");
        int states = verses.count(10);
        verses.type('c');
        verses.clearText();
        verses.keep(0);
        verses.keep(1);
        verses.word(0, 7);
        verses.letterAt(0, 0);
        verses.line(0, 5);
        verses.wordAt(0, 0);
        verses.nearMiss(0, 0);
        verses.find();
        verses.poemAt(0);
        verses.count(0);
        CHECK.due("states after calls that are no acts", states, verses.count(10));
        CHECK.due("undo()", states - 1, verses.undo());
        CHECK.due("states after undo(), which is no act", states - 1, verses.count(10));
    }

    /** Two words, two lines; the first line is made. */
    private static EdgeVerses madePoem() {
        EdgeVerses verses = Verses.withWords("a", "b-'c");
        Verses.setEdges(verses, "ab/ac");
        CHECK.due("makeLine(0)", 4, verses.makeLine(0));
        CHECK.due("states", 4, verses.count(10));
        return verses;
    }

    /** "records the state before it": with room in the history, and when it is full. */
    private static void eachActRecordsTheStateBeforeIt() {
        int states = madePoem().count(10);
        act("addWord()", states, verses -> Verses.addWord(verses, "d"));
        act("removeWord()", states, verses -> verses.removeWord(1));
        act("removeWord() of a word in a line", states, verses -> verses.removeWord(0));
        act("setLimit()", states, verses -> verses.setLimit(1, 9));
        act("setMetre()", states, verses -> verses.setMetre(12, 4095));
        act("setMetre() as it is", states, verses -> verses.setMetre(4, 10));
        act("setEdges()", states, verses -> Verses.setEdges(verses, "abcdefgh/abcdefgh"));
        act("setEdges() as they are", states, verses -> Verses.setEdges(verses, "ab/ac"));
        act("makeLine()", states, verses -> verses.makeLine(1));
        act("makeLine() as it is", states, verses -> verses.makeLine(0));
        act("make()", states, EdgeVerses::make);
        act("clearLine()", states, verses -> verses.clearLine(0));
    }

    private static void act(String name, int states, Consumer<EdgeVerses> act) {
        EdgeVerses verses = madePoem();
        act.accept(verses);
        CHECK.due("states after " + name, states + 1, verses.count(10));
        act.accept(afterThat(verses));
        CHECK.due("states after " + name + " in a full history", 5, verses.count(10));
        for (int left = 4; left >= 0; left--) {
            CHECK.due("undo() after " + name, left, verses.undo());
        }
        CHECK.due("one undo() more after " + name, EdgeVerses.NONE, verses.undo());
    }

    /** The same poem once more, in a history that is full. */
    private static EdgeVerses afterThat(EdgeVerses verses) {
        verses.undo();
        verses.clearLine(0);
        verses.makeLine(0);
        CHECK.due("a full history", 5, verses.count(10));
        return verses;
    }

    /** The same sentence: undo() brings back all of the state. */
    private static void eachActIsUndone() {
        undone("addWord()", verses -> Verses.addWord(verses, "'d-e-'f*9"));
        undone("removeWord()", verses -> verses.removeWord(0));
        undone("setLimit()", verses -> verses.setLimit(1, 9));
        undone("setMetre()", verses -> verses.setMetre(12, 4095));
        undone("setEdges()", verses -> Verses.setEdges(verses, "xyzxyzxy/zyxzyxzy"));
        undone("makeLine()", verses -> verses.makeLine(1));
        undone("make()", EdgeVerses::make);
        undone("clearLine()", verses -> verses.clearLine(0));
        undone("restore()", verses -> {
            verses.setMetre(2, 1);
            verses.keep(1);
            verses.undo();
            verses.restore(1);
        });
    }

    private static void undone(String name, Consumer<EdgeVerses> act) {
        EdgeVerses verses = madePoem();
        String before = Verses.told(verses);
        act.accept(verses);
        CHECK.due("told after " + name, false, before.equals(Verses.told(verses)));
        verses.undo();
        CHECK.due("told when " + name + " is undone", before, Verses.told(verses));
    }

    /** 40 words, eight lines of twelve words; the last ones differ from the others. */
    private static EdgeVerses fullest() {
        EdgeVerses verses = Verses.withFullStore();
        verses.removeWord(39);
        verses.removeWord(1);
        Verses.addWord(verses, "y-'xyx-y-x*7");
        Verses.addWord(verses, "'b*9");
        verses.setLimit(0, 9);
        verses.setMetre(12, 2);
        Verses.setEdges(verses, "aaaaaaab/aaaaaaab");
        CHECK.due("lines of the fullest state", 8, verses.make());
        return verses;
    }

    private static String fullestTold(EdgeVerses verses) {
        StringBuilder told = new StringBuilder();
        for (int word = 37; word <= 40; word++) {
            for (int what = 0; what <= 7; what++) {
                told.append(verses.word(word, what)).append(' ');
            }
        }
        for (int line = 6; line <= 8; line++) {
            for (int what = 0; what <= 5; what++) {
                told.append(verses.line(line, what)).append(' ');
            }
            for (int place = 0; place <= 12; place++) {
                told.append(verses.wordAt(line, place)).append(' ');
            }
        }
        for (int what = 0; what < 10; what++) {
            told.append(verses.count(what)).append(' ');
        }
        return told.toString();
    }

    /** "A state is everything": the 40th word, the eighth line and its twelfth word, too. */
    private static void fullestState() {
        String before = fullestTold(fullest());
        for (int slot = 0; slot < 2; slot++) {
            EdgeVerses verses = fullest();
            verses.keep(slot);
            verses.removeWord(39);
            Verses.addWord(verses, "'qq*3");
            Verses.setEdges(verses, "aaaaaaaa/aaaaaaaa");
            verses.make();
            CHECK.due("restore(" + slot + ")", 40, verses.restore(slot));
            CHECK.due("the fullest state, restored", before, fullestTold(verses));
            for (int act = 0; act < 5; act++) {
                verses.undo();
            }
            CHECK.due("the fullest state, undone", before, fullestTold(verses));
        }
    }

    /** "There are two slots"; keep and restore: "slot: 0 or 1", "UNKNOWN". */
    private static void twoSlots() {
        EdgeVerses verses = afterActs(3);
        CHECK.due("keep(0)", 3, verses.keep(0));
        CHECK.due("keep(1)", 3, verses.keep(1));
        CHECK.due("restore(0)", 3, verses.restore(0));
        CHECK.due("restore(1)", 3, verses.restore(1));
        for (int slot : Bounds.outside(0, 1)) {
            CHECK.due("keep(" + slot + ")", EdgeVerses.UNKNOWN, verses.keep(slot));
            CHECK.due("restore(" + slot + ")", EdgeVerses.UNKNOWN, verses.restore(slot));
            CHECK.due("restore(" + slot + ") of a new object", EdgeVerses.UNKNOWN,
                    new EdgeVerses().restore(slot));
        }
        CHECK.due("states", 5, verses.count(10));
    }

    /** "empty at first"; restore: "NONE if there is no such snapshot". */
    private static void slotsAreEmptyAtFirst() {
        for (int slot = 0; slot < 2; slot++) {
            EdgeVerses verses = new EdgeVerses();
            CHECK.due("restore(" + slot + ")", EdgeVerses.NONE, verses.restore(slot));
            CHECK.due("keep(" + slot + ")", 0, verses.keep(slot));
            CHECK.due("restore(" + (1 - slot) + "), the other slot", EdgeVerses.NONE, verses.restore(1 - slot));
            CHECK.due("restore(" + slot + ")", 0, verses.restore(slot));
            CHECK.due("states", 1, verses.count(10));
        }
    }

    /** keep: "in place of what is there" */
    private static void inPlaceOfWhatIsThere() {
        EdgeVerses verses = afterActs(2);
        verses.keep(0);
        verses.keep(1);
        verses.removeWord(0);
        CHECK.due("keep(0) again", 1, verses.keep(0));
        CHECK.due("restore(1) of the old state", 2, verses.restore(1));
        CHECK.due("restore(0) of the new state", 1, verses.restore(0));
        CHECK.due("its word", "b", Verses.letters(verses, 0));
        verses.removeWord(0);
        CHECK.due("keep(0) of no words", 0, verses.keep(0));
        verses.undo();
        CHECK.due("restore(0) of no words", 0, verses.restore(0));
    }

    /** restore: "Restores the state of a snapshot, which stays." */
    private static void snapshotStays() {
        EdgeVerses verses = madePoem();
        String before = Verses.told(verses);
        verses.keep(0);
        for (int time = 0; time < 3; time++) {
            verses.removeWord(0);
            verses.setLimit(0, 5);
            verses.setMetre(3, 0);
            CHECK.due("restore(0)", 2, verses.restore(0));
            CHECK.due("told after restore(0)", before, Verses.told(verses));
        }
    }

    /** restore: "This is an act." */
    private static void restoreIsAnAct() {
        EdgeVerses verses = new EdgeVerses();
        verses.keep(1);
        for (int states = 1; states <= 4; states++) {
            verses.restore(1);
            CHECK.due("states after restore(1) of the same state", states, verses.count(10));
        }
        Verses.addWord(verses, "a");
        CHECK.due("restore(1)", 0, verses.restore(1));
        CHECK.due("undo() of restore(1)", 4, verses.undo());
        CHECK.due("words then", 1, verses.count(0));
    }

    /** The same: "when one more is recorded, the oldest one is dropped". */
    private static void restoreWithAFullHistory() {
        EdgeVerses verses = afterActs(4);
        verses.keep(0);
        Verses.addWord(verses, "x");
        CHECK.due("full history", 5, verses.count(10));
        CHECK.due("restore(0)", 4, verses.restore(0));
        CHECK.due("states", 5, verses.count(10));
        int[] words = {5, 4, 3, 2, 1};
        for (int undone = 0; undone < 5; undone++) {
            CHECK.due("undo()", 4 - undone, verses.undo());
            CHECK.due("words then", words[undone], verses.count(0));
        }
    }

    /** keep: "Returns the number of words"; restore: "Returns the number of words then". */
    private static void wordsOfASnapshot() {
        EdgeVerses verses = new EdgeVerses();
        CHECK.due("keep(0) of no words", 0, verses.keep(0));
        Verses.addWord(verses, "a");
        CHECK.due("keep(1) of one word", 1, verses.keep(1));
        CHECK.due("restore(0) of no words", 0, verses.restore(0));
        CHECK.due("restore(1) of one word", 1, verses.restore(1));
        EdgeVerses full = Verses.withFullStore();
        CHECK.due("keep(1) of 40 words", 40, full.keep(1));
        full.removeWord(39);
        full.removeWord(0);
        CHECK.due("restore(1) of 40 words", 40, full.restore(1));
        CHECK.due("letters of the last one", "an", Verses.letters(full, 39));
        CHECK.due("no room then", EdgeVerses.FULL, Verses.addWord(full, "zz"));
    }

    /** "A state is everything but the text, the history and the snapshots": the text. */
    private static void textIsNotInAState() {
        EdgeVerses verses = Verses.withWords("a");
        Verses.typed(verses, "ab");
        verses.keep(0);
        Verses.typed(verses, "b");
        verses.addWord();
        Verses.typed(verses, "xyz");
        CHECK.due("undo()", 1, verses.undo());
        CHECK.due("length after undo()", 3, verses.count(11));
        CHECK.due("restore(0)", 1, verses.restore(0));
        CHECK.due("length after restore(0)", 3, verses.count(11));
        CHECK.due("addWord()", 1, verses.addWord());
        CHECK.due("letters of the text", "xyz", Verses.letters(verses, 1));
    }

    /** "... the history ..." */
    private static void historyIsNotInAState() {
        EdgeVerses verses = afterActs(1);
        verses.keep(0);
        Verses.addWord(verses, "x");
        Verses.addWord(verses, "y");
        CHECK.due("restore(0)", 1, verses.restore(0));
        CHECK.due("states after restore(0)", 4, verses.count(10));
        verses.undo();
        verses.undo();
        CHECK.due("states after undo()", 2, verses.count(10));
        CHECK.due("words after undo()", 2, verses.count(0));
    }

    /** "... and the snapshots" */
    private static void snapshotsAreNotInAState() {
        EdgeVerses verses = afterActs(2);
        verses.keep(0);
        verses.undo();
        verses.undo();
        CHECK.due("restore(0) of what is kept, though undone", 2, verses.restore(0));
        verses.keep(1);
        CHECK.due("restore(0)", 2, verses.restore(0));
        verses.removeWord(0);
        CHECK.due("restore(1), which restore(0) leaves", 2, verses.restore(1));
        verses.removeWord(1);
        verses.keep(0);
        verses.undo();
        CHECK.due("restore(0), which undo() leaves", 1, verses.restore(0));
    }
}

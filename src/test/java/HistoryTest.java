/** Promises 12, 13 and 14: the history and the snapshots. */
public final class HistoryTest {
    private static final Check CHECK = new Check();

    public static void main(String[] args) {
        undoTellsTheStatesThatAreLeft();
        oldestStateIsDropped();
        undoneStatesAreGone();
        undoBringsBackAll();
        fullStoreIsBroughtBack();
        longestPoemIsBroughtBack();
        actsAfterUndo();
        keepAnswers();
        restoreAnswers();
        restoreBringsBackAll();
        restoreIsAnAct();
        snapshotsStandApart();
        whatIsNotRecorded();
        CHECK.finish();
    }

    private static void undoTellsTheStatesThatAreLeft() {
        EdgeVerses verses = Verses.withWords("a", "b", "c");
        CHECK.due("history", 3, verses.count(10));
        CHECK.due("undo()", 2, verses.undo());
        CHECK.due("words", 2, verses.count(0));
        CHECK.due("undo()", 1, verses.undo());
        CHECK.due("undo()", 0, verses.undo());
        CHECK.due("words", 0, verses.count(0));
        CHECK.due("undo()", EdgeVerses.NONE, verses.undo());
        CHECK.due("history", 0, verses.count(10));
    }

    private static void oldestStateIsDropped() {
        for (int acts = 4; acts <= 17; acts++) {
            EdgeVerses verses = new EdgeVerses();
            for (int act = 0; act < acts; act++) {
                Verses.addWord(verses, "" + (char) ('a' + act));
                CHECK.due("history after " + (act + 1), Math.min(act + 1, 5), verses.count(10));
            }
            int states = Math.min(acts, 5);
            for (int state = 1; state <= states; state++) {
                CHECK.due("undo() " + state, states - state, verses.undo());
                CHECK.due("words after undo() " + state, acts - state, verses.count(0));
            }
            CHECK.due("one undo() more", EdgeVerses.NONE, verses.undo());
            CHECK.due("words in the end", acts - states, verses.count(0));
        }
    }

    private static void undoneStatesAreGone() {
        EdgeVerses verses = Verses.withWords("a", "b");
        verses.undo();
        Verses.addWord(verses, "c");
        CHECK.due("word 1", "c", Verses.letters(verses, 1));
        CHECK.due("undo()", 1, verses.undo());
        CHECK.due("undo()", 0, verses.undo());
        CHECK.due("words", 0, verses.count(0));
    }

    private static void undoBringsBackAll() {
        EdgeVerses verses = Verses.withWords("'ab*2", "b-'a", "'c-c-'c*9");
        Verses.setMetre(verses, "'.'");
        Verses.setEdges(verses, "abc/abc");
        verses.make();
        String before = Verses.told(verses);
        verses.removeWord(0);
        verses.setMetre(6, 0);
        Verses.setEdges(verses, "xy/zx");
        Verses.addWord(verses, "x-z*7");
        CHECK.due("makeLine(0)", 3, verses.makeLine(0));
        CHECK.due("undo()", 4, verses.undo());
        CHECK.due("undo()", 3, verses.undo());
        CHECK.due("undo()", 2, verses.undo());
        CHECK.due("undo()", 1, verses.undo());
        CHECK.due("undo()", 0, verses.undo());
        CHECK.due("told then", before, Verses.told(verses));
    }

    private static void fullStoreIsBroughtBack() {
        EdgeVerses verses = new EdgeVerses();
        for (int word = 0; word < 39; word++) {
            Verses.addWord(verses, "x" + (char) ('a' + word / 26) + (char) ('a' + word % 26));
        }
        Verses.addWord(verses, "'bc-d*7");
        verses.removeWord(39);
        Verses.addWord(verses, "p-'q-'r-st*3");
        verses.undo();
        CHECK.due("words", 39, verses.count(0));
        verses.undo();
        int[] due = {3, 2, 1, 7, 0, 'b', 'd'};
        for (int what = 0; what < due.length; what++) {
            CHECK.due("word(39, " + what + ") when it is back", due[what], verses.word(39, what));
        }
    }

    private static void longestPoemIsBroughtBack() {
        EdgeVerses verses = Verses.withWords("a*9", "b*9");
        verses.setMetre(12, 0);
        Verses.setEdges(verses, "aaaaaaab/aaaaaaab");
        CHECK.due("make()", 8, verses.make());
        Verses.setEdges(verses, "aaaaaaaa/aaaaaaaa");
        CHECK.due("make() of other lines", 8, verses.make());
        verses.undo();
        CHECK.due("line(7, 0) when it is empty again", 0, verses.line(7, 0));
        verses.undo();
        int[] due = {12, 0, 12, 'b', 'b'};
        for (int what = 0; what < due.length; what++) {
            CHECK.due("line(7, " + what + ") when it is back", due[what], verses.line(7, what));
        }
        CHECK.due("wordAt(7, 0)", 1, verses.wordAt(7, 0));
        CHECK.due("wordAt(7, 10)", 0, verses.wordAt(7, 10));
        CHECK.due("wordAt(7, 11)", 1, verses.wordAt(7, 11));
    }

    private static void actsAfterUndo() {
        EdgeVerses verses = Verses.withWords("a", "b", "c", "d", "e", "f", "g");
        verses.undo();
        verses.undo();
        Verses.addWord(verses, "h");
        Verses.addWord(verses, "i");
        Verses.addWord(verses, "j");
        CHECK.due("history", 5, verses.count(10));
        CHECK.due("words", 8, verses.count(0));
        for (int left = 4; left >= 0; left--) {
            CHECK.due("undo()", left, verses.undo());
        }
        CHECK.due("words in the end", 3, verses.count(0));
        CHECK.due("word 2", "c", Verses.letters(verses, 2));
    }

    private static void keepAnswers() {
        EdgeVerses verses = Verses.withWords("a", "b");
        int[] unknown = {-1, 2, 5, Integer.MIN_VALUE, Integer.MAX_VALUE};
        for (int slot : unknown) {
            CHECK.due("keep(" + slot + ")", EdgeVerses.UNKNOWN, verses.keep(slot));
            CHECK.due("restore(" + slot + ")", EdgeVerses.UNKNOWN, verses.restore(slot));
        }
        CHECK.due("keep(0)", 2, verses.keep(0));
        verses.removeWord(0);
        CHECK.due("keep(1)", 1, verses.keep(1));
        CHECK.due("keep(0) again", 1, verses.keep(0));
        verses.undo();
        CHECK.due("restore(0), in place of what was there", 1, verses.restore(0));
        CHECK.due("keep() of no words", 0, new EdgeVerses().keep(1));
    }

    private static void restoreAnswers() {
        EdgeVerses verses = Verses.withWords("a", "b");
        CHECK.due("restore(0)", EdgeVerses.NONE, verses.restore(0));
        CHECK.due("restore(1)", EdgeVerses.NONE, verses.restore(1));
        CHECK.due("history after NONE", 2, verses.count(10));
        verses.keep(1);
        CHECK.due("restore(0), the other slot", EdgeVerses.NONE, verses.restore(0));
        CHECK.due("restore(1)", 2, verses.restore(1));
        verses.removeWord(1);
        verses.removeWord(0);
        CHECK.due("restore(1) again, it stays", 2, verses.restore(1));
        CHECK.due("words", 2, verses.count(0));
    }

    private static void restoreBringsBackAll() {
        EdgeVerses verses = Verses.withWords("'ab*2", "b-'a", "'c-c-'c*9");
        Verses.setMetre(verses, "'.'");
        Verses.setEdges(verses, "abc/abc");
        verses.make();
        String before = Verses.told(verses);
        verses.keep(0);
        verses.removeWord(0);
        verses.setMetre(6, 5);
        Verses.setEdges(verses, "xy/zx");
        Verses.addWord(verses, "x-z*7");
        verses.makeLine(0);
        verses.keep(1);
        CHECK.due("restore(0)", 3, verses.restore(0));
        CHECK.due("told then", before, Verses.told(verses));
    }

    private static void restoreIsAnAct() {
        EdgeVerses verses = Verses.withWords("a");
        verses.keep(0);
        verses.restore(0);
        CHECK.due("history after restore() of the same", 2, verses.count(10));
        Verses.addWord(verses, "b");
        verses.restore(0);
        CHECK.due("words", 1, verses.count(0));
        CHECK.due("undo()", 3, verses.undo());
        CHECK.due("words then", 2, verses.count(0));
        verses.restore(2);
        verses.restore(1);
        CHECK.due("history after UNKNOWN and NONE", 3, verses.count(10));
    }

    private static void snapshotsStandApart() {
        EdgeVerses verses = Verses.withWords("a", "b");
        verses.keep(0);
        verses.undo();
        verses.keep(1);
        verses.undo();
        CHECK.due("restore(0) after undo()", 2, verses.restore(0));
        verses.removeWord(0);
        verses.setLimit(0, 9);
        CHECK.due("restore(0) after acts", 2, verses.restore(0));
        CHECK.due("limit of the snapshot", 1, verses.word(1, 3));
        CHECK.due("restore(1)", 1, verses.restore(1));
        CHECK.due("history is not in a snapshot", 5, verses.count(10));
    }

    private static void whatIsNotRecorded() {
        EdgeVerses verses = Verses.withWords("a");
        verses.keep(0);
        verses.keep(1);
        verses.keep(2);
        verses.find();
        verses.poemAt(0);
        CHECK.due("history after keep()", 1, verses.count(10));
        CHECK.due("undo()", 0, verses.undo());
        CHECK.due("undo() is no act", EdgeVerses.NONE, verses.undo());
    }
}

/** Promises 4 and 20: words that are added, and found by their letters. */
public final class AddWordTest {
    private static final Check CHECK = new Check();

    public static void main(String[] args) {
        wordsWithoutFault();
        faults();
        faultsInTheText();
        sameLetters();
        fullStore();
        orderOfTheErrors();
        textStaysAndActIsRecorded();
        errorsRecordNothing();
        findTakesJustTheLetters();
        CHECK.finish();
    }

    /** Each word is told as: letters, syllables, strong syllables, limit. */
    private static void wordsWithoutFault() {
        word("a", "a", 1, 0, 1);
        word("'a", "a", 1, 1, 1);
        word("z*9", "z", 1, 0, 9);
        word("'o-ver", "over", 2, 1, 1);
        word("o-'ver*1", "over", 2, 2, 1);
        word("'a-b-'c-d", "abcd", 4, 5, 1);
        word("a-b-c-'d*2", "abcd", 4, 8, 2);
        word("'a-'b-'c-'d*3", "abcd", 4, 15, 3);
        word("abcdefgh", "abcdefgh", 1, 0, 1);
        word("abcdefgh*8", "abcdefgh", 1, 0, 8);
        word("'ab-'cd-'ef-'gh*9", "abcdefgh", 4, 15, 9);
        word("zzzzzzzz", "zzzzzzzz", 1, 0, 1);
    }

    private static void word(String text, String letters, int syllables, int strong, int limit) {
        EdgeVerses verses = new EdgeVerses();
        CHECK.due("addWord of " + text, 0, Verses.addWord(verses, text));
        CHECK.due("letters of " + text, letters, Verses.letters(verses, 0));
        CHECK.due("number of letters of " + text, letters.length(), verses.word(0, 0));
        CHECK.due("syllables of " + text, syllables, verses.word(0, 1));
        CHECK.due("strong ones of " + text, strong, verses.word(0, 2));
        CHECK.due("limit of " + text, limit, verses.word(0, 3));
    }

    private static void faults() {
        fault("", 0);
        fault("'", 1);
        fault("''a", 1);
        fault("-a", 0);
        fault("*2", 0);
        fault("1", 0);
        fault("A", 0);
        fault("`", 0);
        fault("{", 0);
        fault(" a", 0);
        fault("aB", 1);
        fault("a'b", 1);
        fault("a b", 1);
        fault("a2", 1);
        fault("'-a", 1);
        fault("'*2", 1);
        fault("a-", 2);
        fault("a--b", 2);
        fault("a-*2", 2);
        fault("a-'", 3);
        fault("a-''b", 3);
        fault("a-'-b", 3);
        fault("a*", 2);
        fault("a*0", 2);
        fault("a*:", 2);
        fault("a*/", 2);
        fault("a**", 2);
        fault("a*b", 2);
        fault("a*12", 3);
        fault("a*1b", 3);
        fault("a*1-", 3);
        fault("a*1*", 3);
        fault("a*1'", 3);
    }

    private static void faultsInTheText() {
        fault("abcdefghi", 8);
        fault("abcdefgh'", 8);
        fault("'ab-cd-ef-ghi", 12);
        fault("a-b-c-d-", 7);
        fault("a-b-c-d-e", 7);
        fault("'a-'b-'c-'d-", 11);
        fault("abcdefgh-", 9);
        fault("abcdefgh-i", 9);
        fault("abcdefgh-'", 10);
        fault("abcdefgh-'i", 10);
        fault("abcdefgh--", 9);
        fault("abcdefgh-*2", 9);
        fault("ab-cd-efgh-", 11);
        fault("ab-cd-ef-gh-", 11);
        fault("a".repeat(40), 8);
        fault("a*2" + " ".repeat(37), 3);
    }

    private static void fault(String text, int fault) {
        EdgeVerses verses = new EdgeVerses();
        CHECK.due("addWord of " + text, -100 - fault, Verses.addWord(verses, text));
        CHECK.due("words after " + text, 0, verses.count(0));
        CHECK.due("history after " + text, 0, verses.count(10));
    }

    private static void sameLetters() {
        EdgeVerses verses = Verses.withWords("'over", "o", "ov");
        CHECK.due("number of a fourth word", 3, Verses.addWord(verses, "ove"));
        CHECK.due("same letters", EdgeVerses.NOT_POSSIBLE, Verses.addWord(verses, "over"));
        CHECK.due("same, syllables differ", EdgeVerses.NOT_POSSIBLE, Verses.addWord(verses, "o-'ver*3"));
        CHECK.due("same as the last one", EdgeVerses.NOT_POSSIBLE, Verses.addWord(verses, "ove"));
        CHECK.due("limit of the word that is there", 1, verses.word(0, 3));
        CHECK.due("longer", 4, Verses.addWord(verses, "overs"));
        CHECK.due("other end", 5, Verses.addWord(verses, "ovez"));
        verses.removeWord(0);
        CHECK.due("same letters as a removed one", 5, Verses.addWord(verses, "o-ver"));
    }

    private static EdgeVerses full() {
        EdgeVerses verses = new EdgeVerses();
        for (int word = 0; word < 40; word++) {
            String letters = "" + (char) ('a' + word / 26) + (char) ('a' + word % 26);
            CHECK.due("addWord " + letters, word, Verses.addWord(verses, letters));
        }
        return verses;
    }

    private static void fullStore() {
        EdgeVerses verses = full();
        CHECK.due("41st word", EdgeVerses.FULL, Verses.addWord(verses, "zz"));
        CHECK.due("full: count(0)", 40, verses.count(0));
        CHECK.due("full: letters of the last one", "bn", Verses.letters(verses, 39));
        verses.removeWord(39);
        CHECK.due("one less", 39, Verses.addWord(verses, "zz"));
    }

    private static void orderOfTheErrors() {
        EdgeVerses verses = full();
        CHECK.due("full and there already", EdgeVerses.NOT_POSSIBLE, Verses.addWord(verses, "bn"));
        CHECK.due("full and a fault", -103, Verses.addWord(verses, "zz-"));
        CHECK.due("full, there already but for a fault", -102, Verses.addWord(verses, "bn'"));
    }

    private static void textStaysAndActIsRecorded() {
        EdgeVerses verses = Verses.typed(new EdgeVerses(), "a-b");
        CHECK.due("addWord()", 0, verses.addWord());
        CHECK.due("text after addWord()", 3, verses.count(11));
        CHECK.due("history after addWord()", 1, verses.count(10));
        CHECK.due("addWord() again", EdgeVerses.NOT_POSSIBLE, verses.addWord());
        CHECK.due("undo()", 0, verses.undo());
        CHECK.due("words after undo()", 0, verses.count(0));
        CHECK.due("addWord() once more", 0, verses.addWord());
    }

    private static void errorsRecordNothing() {
        EdgeVerses verses = Verses.withWords("a");
        Verses.addWord(verses, "a");
        Verses.addWord(verses, "-");
        CHECK.due("history after errors", 1, verses.count(10));
        EdgeVerses full = full();
        Verses.addWord(full, "zz");
        full.undo();
        CHECK.due("words when an act before FULL is undone", 39, full.count(0));
    }

    private static void findTakesJustTheLetters() {
        EdgeVerses verses = Verses.withWords("'o-ver", "a*3", "abcdefgh");
        CHECK.due("find over", 0, Verses.find(verses, "over"));
        CHECK.due("find a", 1, Verses.find(verses, "a"));
        CHECK.due("find abcdefgh", 2, Verses.find(verses, "abcdefgh"));
        String[] others = {"", "o-ver", "'o-ver", "'over", "a*3", "a*", "ove", "overs", "ver", "A",
            "abcdefghi", "abcdefg", "abcdefgh ", " a", "a ", "revo", "abcdefghabcdefgh"};
        for (String other : others) {
            CHECK.due("find " + other, EdgeVerses.NONE, Verses.find(verses, other));
        }
        CHECK.due("find with a character that folds to a", EdgeVerses.NONE,
                Verses.find(verses, "" + (char) ('a' + 256)));
        CHECK.due("find nine letters whose ninth is the first one", EdgeVerses.NONE,
                Verses.find(verses, "abcdefgha"));
        CHECK.due("find in the middle of other characters", EdgeVerses.NONE,
                Verses.find(Verses.withWords("aa"), (char) ('a' + 256) + "a"));
        verses.removeWord(0);
        CHECK.due("find a removed word", EdgeVerses.NONE, Verses.find(verses, "over"));
        CHECK.due("find a word that moved up", 0, Verses.find(verses, "a"));
        CHECK.due("text after find()", 1, verses.count(11));
        CHECK.due("history after find()", 4, verses.count(10));
    }
}

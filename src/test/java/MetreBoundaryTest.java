/**
 * Boundary cases of the metre and of the edges: 'Terms' (metre, edges), promises 7 and 8. Each test
 * stands for the sentence of the document that is quoted above it.
 */
public final class MetreBoundaryTest {
    private static final Check CHECK = new Check();
    private static final String LETTERS = "abcdefghijklmnopqrstuvwxyz";

    public static void main(String[] args) {
        twoToTwelveBeats();
        fourBeatsAtFirst();
        strongBeatsBelowThePower();
        beatsAndStrongBeatsOutOfRange();
        asManySyllablesAsBeats();
        strongOnStrongAndWeakOnWeak();
        oneSyllableOnAnyBeat();
        bendUnlessTheStressIsThatOfTheBeat();
        metreEmptiesNoneSomeAndAllLines();
        sameMetreIsAnActToo();
        edgesOfOneToEightLetters();
        edgesOfTheSameLength();
        edgesAreAAtFirst();
        edgesOfLettersAlone();
        oneSlashAlone();
        aLineForEachLetter();
        edgesEmptyAllLines();
        textOfTheEdgesStays();
        CHECK.finish();
    }

    /** "a pattern of 2 to 12 beats"; setMetre: "beats: 2 to 12". */
    private static void twoToTwelveBeats() {
        for (int beats = 2; beats <= 12; beats++) {
            EdgeVerses verses = Verses.withWords("a");
            CHECK.due("setMetre(" + beats + ", 0)", 0, verses.setMetre(beats, 0));
            CHECK.due("beats then", beats, verses.count(4));
            CHECK.due("words of a line of " + beats, beats, verses.makeLine(0));
            CHECK.due("wordAt(0, " + (beats - 1) + ")", 0, verses.wordAt(0, beats - 1));
            CHECK.due("wordAt(0, " + beats + ")", EdgeVerses.NONE, verses.wordAt(0, beats));
        }
        EdgeVerses verses = new EdgeVerses();
        for (int beats : Bounds.outside(2, 12)) {
            CHECK.due("setMetre(" + beats + ", 0)", EdgeVerses.BAD_VALUE, verses.setMetre(beats, 0));
            CHECK.due("setMetre(" + beats + ", 1)", EdgeVerses.BAD_VALUE, verses.setMetre(beats, 1));
        }
        CHECK.due("beats after bad ones", 4, verses.count(4));
    }

    /** "at first it has four beats: weak, strong, weak, strong" */
    private static void fourBeatsAtFirst() {
        CHECK.due("beats at first", 4, new EdgeVerses().count(4));
        CHECK.due("strong beats at first", 2 + 8, new EdgeVerses().count(5));
        CHECK.due("history at first", 0, new EdgeVerses().count(10));
        CHECK.due("a word of this metre", 1, Verses.withWords("a-'b-c-'a").makeLine(0));
        CHECK.due("a word of three beats", EdgeVerses.NONE, Verses.withWords("a-'b-a").makeLine(0));
        CHECK.due("a word of the other metre", EdgeVerses.NONE, Verses.withWords("'a-b-'c-a").makeLine(0));
    }

    /** setMetre: "strong: a bit set ..., less than 2 to the power beats" */
    private static void strongBeatsBelowThePower() {
        EdgeVerses verses = new EdgeVerses();
        int power = 4;
        for (int beats = 2; beats <= 12; beats++) {
            String call = "setMetre(" + beats + ", ";
            CHECK.due(call + "0)", 0, verses.setMetre(beats, 0));
            CHECK.due("no strong beat", 0, verses.count(5));
            CHECK.due(call + (power - 1) + ")", 0, verses.setMetre(beats, power - 1));
            CHECK.due("all beats strong", power - 1, verses.count(5));
            CHECK.due(call + power + ")", EdgeVerses.BAD_VALUE, verses.setMetre(beats, power));
            CHECK.due(call + "-1)", EdgeVerses.BAD_VALUE, verses.setMetre(beats, -1));
            CHECK.due("strong beats after bad ones", power - 1, verses.count(5));
            for (int strong : Bounds.outside(0, power - 1)) {
                CHECK.due(call + strong + ")", EdgeVerses.BAD_VALUE, verses.setMetre(beats, strong));
            }
            power *= 2;
        }
    }

    /** setMetre: "BAD_VALUE", when both are out of range, too. */
    private static void beatsAndStrongBeatsOutOfRange() {
        EdgeVerses verses = new EdgeVerses();
        for (int beats : new int[] {1, 13, 33, 34, -30, Integer.MIN_VALUE, Integer.MAX_VALUE}) {
            for (int strong : new int[] {-1, 2, 8192, Integer.MIN_VALUE, Integer.MAX_VALUE}) {
                String call = "setMetre(" + beats + ", " + strong + ")";
                CHECK.due(call, EdgeVerses.BAD_VALUE, verses.setMetre(beats, strong));
            }
        }
        CHECK.due("history after bad ones", 0, verses.count(10));
    }

    /** The rows for the line from a to z in a metre of weak beats. */
    private static int rows(int beats, String... words) {
        EdgeVerses verses = Verses.withWords(words);
        verses.setMetre(beats, 0);
        Verses.setEdges(verses, "a/z");
        return verses.line(0, 5);
    }

    /** "if their syllables, one behind the other, are as many as the beats of the metre" */
    private static void asManySyllablesAsBeats() {
        CHECK.due("3 syllables, 2 beats", 0, rows(2, "a-b-z"));
        CHECK.due("3 syllables, 3 beats", 1, rows(3, "a-b-z"));
        CHECK.due("3 syllables, 4 beats", 0, rows(4, "a-b-z"));
        CHECK.due("4 + 4 + 3 syllables, 12 beats", 0, rows(12, "a-b-c-d", "x-y-z"));
        CHECK.due("4 + 4 + 4 syllables, 12 beats", 2, rows(12, "a-b-c-d", "w-x-y-z"));
        CHECK.due("1 + 4 syllables, 4 beats", 0, rows(4, "a", "w-x-y-z"));
        CHECK.due("1 + 4 syllables, 5 beats", 1, rows(5, "a", "w-x-y-z"));
        CHECK.due("1 + 4 syllables, 6 beats", 1, rows(6, "a", "w-x-y-z"));
        CHECK.due("2 + 4 syllables, 6 beats", 1, rows(6, "a-b", "w-x-y-z"));
        CHECK.due("2 + 4 syllables, 7 beats", 0, rows(7, "a-b", "w-x-y-z"));
    }

    /** "each syllable on a strong beat is strong, and each on a weak beat is weak" */
    private static void strongOnStrongAndWeakOnWeak() {
        for (int syllables = 2; syllables <= 4; syllables++) {
            for (int stresses = 0; stresses < 1 << syllables; stresses++) {
                StringBuilder text = new StringBuilder();
                for (int syllable = 0; syllable < syllables; syllable++) {
                    text.append(syllable > 0 ? "-" : "");
                    text.append((stresses >> syllable & 1) == 1 ? "'a" : "a");
                }
                EdgeVerses verses = Verses.withWords(text.toString());
                for (int strong = 0; strong < 1 << syllables; strong++) {
                    verses.setMetre(syllables, strong);
                    String call = text + " on strong beats " + strong;
                    CHECK.due(call, strong == stresses ? 1 : EdgeVerses.NONE, verses.makeLine(0));
                    CHECK.due("beats for " + call, strong == stresses ? 1 : 0, verses.word(0, 7));
                    CHECK.due("bends of " + call, 0, verses.line(0, 1));
                }
            }
        }
    }

    /** "a word of one syllable can stand on any beat, whatever its stress is" */
    private static void oneSyllableOnAnyBeat() {
        for (String word : new String[] {"a", "'a"}) {
            EdgeVerses verses = Verses.withWords(word);
            for (int strong : new int[] {0, 1, 2, 1365, 2730, 2048, 4095}) {
                verses.setMetre(12, strong);
                CHECK.due("rows of " + word + " on strong beats " + strong, 1, verses.line(0, 5));
                CHECK.due("beats for " + word, 12, verses.word(0, 7));
                CHECK.due("words", 12, verses.makeLine(0));
            }
        }
    }

    /** "(this is a bend, unless its stress is that of the beat)" */
    private static void bendUnlessTheStressIsThatOfTheBeat() {
        EdgeVerses weak = Verses.withWords("a");
        EdgeVerses strong = Verses.withWords("'a");
        int[][] metres = {{2, 0, 0}, {2, 1, 1}, {2, 2, 1}, {2, 3, 2}, {12, 0, 0}, {12, 2048, 1},
            {12, 1, 1}, {12, 4095, 12}, {12, 4094, 11}, {12, 2047, 11}};
        for (int[] metre : metres) {
            String call = " on " + metre[0] + " beats, strong " + metre[1];
            weak.setMetre(metre[0], metre[1]);
            strong.setMetre(metre[0], metre[1]);
            CHECK.due("an empty line has no bends", 0, weak.line(0, 1));
            weak.makeLine(0);
            strong.makeLine(0);
            CHECK.due("bends of a weak word" + call, metre[2], weak.line(0, 1));
            CHECK.due("bends of a strong word" + call, metre[0] - metre[2], strong.line(0, 1));
            CHECK.due("bends in all lines" + call, metre[2], weak.count(3));
        }
    }

    /** Lines of the word a; so many of the eight are made. */
    private static EdgeVerses made(int lines) {
        EdgeVerses verses = Verses.withWords("a*9");
        String edge = "a".repeat(lines) + "b".repeat(8 - lines);
        Verses.setEdges(verses, edge + "/" + edge);
        verses.make();
        CHECK.due("lines that are made", lines, verses.count(2));
        return verses;
    }

    /** setMetre: "all lines become empty"; "Returns the number of lines that become empty by this". */
    private static void metreEmptiesNoneSomeAndAllLines() {
        for (int lines = 0; lines <= 8; lines++) {
            EdgeVerses verses = made(lines);
            CHECK.due("a bad metre, " + lines + " made", EdgeVerses.BAD_VALUE, verses.setMetre(1, 0));
            CHECK.due("lines after a bad metre", lines, verses.count(2));
            CHECK.due("setMetre(2, 0), " + lines + " made", lines, verses.setMetre(2, 0));
            CHECK.due("lines that are made then", 0, verses.count(2));
            CHECK.due("lines then", 8, verses.count(1));
            CHECK.due("poem then", "////////", Verses.poem(verses));
            CHECK.due("lines that use a then", 0, verses.word(0, 4));
            CHECK.due("setMetre(2, 0) again", 0, verses.setMetre(2, 0));
        }
    }

    /** setMetre: "This is an act": with the metre that it is already, too. */
    private static void sameMetreIsAnActToo() {
        EdgeVerses verses = new EdgeVerses();
        CHECK.due("setMetre(4, 10), as it is", 0, verses.setMetre(4, 10));
        CHECK.due("history then", 1, verses.count(10));
        EdgeVerses eight = made(8);
        int states = eight.count(10);
        CHECK.due("setMetre(4, 10), lines are made", 8, eight.setMetre(4, 10));
        CHECK.due("history then", states + 1, eight.count(10));
        eight.undo();
        CHECK.due("lines when it is undone", 8, eight.count(2));
    }

    /** "texts of the same length, 1 to 8 letters each"; setEdges: "1 to 8 letters, "/", and as many". */
    private static void edgesOfOneToEightLetters() {
        EdgeVerses verses = new EdgeVerses();
        CHECK.due("edges of 0 letters", EdgeVerses.NOT_POSSIBLE, Verses.setEdges(verses, "/"));
        for (int lines = 1; lines <= 8; lines++) {
            String text = LETTERS.substring(0, lines) + "/" + LETTERS.substring(26 - lines);
            CHECK.due("edges " + text, lines, Verses.setEdges(verses, text));
        }
        for (int lines = 9; lines <= 19; lines++) {
            String text = LETTERS.substring(0, lines) + "/" + LETTERS.substring(26 - lines);
            CHECK.due("edges " + text, EdgeVerses.NOT_POSSIBLE, Verses.setEdges(verses, text));
        }
        CHECK.due("lines then", 8, verses.count(1));
        CHECK.due("history then", 5, verses.count(10));
    }

    /** "and as many letters": one fewer or one more isn't possible. */
    private static void edgesOfTheSameLength() {
        for (int first = 0; first <= 10; first++) {
            for (int last = 0; last <= 10; last++) {
                String text = "a".repeat(first) + "/" + "b".repeat(last);
                boolean possible = first == last && first >= 1 && first <= 8;
                CHECK.due("edges " + text, possible ? first : EdgeVerses.NOT_POSSIBLE,
                        Verses.setEdges(new EdgeVerses(), text));
            }
        }
    }

    /** "at first both are "a"" */
    private static void edgesAreAAtFirst() {
        EdgeVerses verses = new EdgeVerses();
        CHECK.due("lines at first", 1, verses.count(1));
        CHECK.due("first letter at first", (int) 'a', verses.line(0, 3));
        CHECK.due("last letter at first", (int) 'a', verses.line(0, 4));
        CHECK.due("line 1 at first", EdgeVerses.UNKNOWN, verses.line(1, 3));
    }

    /** setEdges: "NOT_POSSIBLE if the text is not of this form": signs that are no letters. */
    private static void edgesOfLettersAlone() {
        for (String letter : new String[] {"a", "z"}) {
            CHECK.due("edges of " + letter, 2, Verses.setEdges(new EdgeVerses(),
                    letter + letter + "/" + letter + letter));
        }
        char[] others = {0, ' ', '\'', '*', '-', '/', '1', 'A', 'Z', 'a' - 1, 'z' + 1, 127, 228,
            'a' + 256, '/' + 256, 0xffff};
        for (char other : others) {
            String[] texts = {other + "a/aa", "a" + other + "/aa", "aa/" + other + "a", "aa/a" + other,
                "aa" + other + "aa"};
            for (int index = 0; index < texts.length; index++) {
                boolean isASlash = index == 4 && other == '/';
                CHECK.due("edges of " + texts[index] + " with sign " + (int) other,
                        isASlash ? 2 : EdgeVerses.NOT_POSSIBLE,
                        Verses.setEdges(new EdgeVerses(), texts[index]));
            }
        }
    }

    /** setEdges: "The text has to be": nothing ahead of it, nothing behind it, no second "/". */
    private static void oneSlashAlone() {
        String[] texts = {"", "a", "ab", "abc", "abcdefgh", "/", "//", "///", "/a", "a/", "a//a",
            "a/a/", "/a/a", "a/a/a", "a/a ", " a/a", "a /a", "a/ a", "a/a*1", "'a/a"};
        for (String text : texts) {
            CHECK.due("edges " + text, EdgeVerses.NOT_POSSIBLE, Verses.setEdges(new EdgeVerses(), text));
        }
        String full = "abcdefgh/abcdefgh";
        CHECK.due("edges and more, to the 40th character", EdgeVerses.NOT_POSSIBLE,
                Verses.setEdges(new EdgeVerses(), full + "x".repeat(23)));
        CHECK.due("forty characters", EdgeVerses.NOT_POSSIBLE,
                Verses.setEdges(new EdgeVerses(), "x".repeat(40)));
    }

    /** "The poem has a line for each letter." */
    private static void aLineForEachLetter() {
        for (int lines = 1; lines <= 8; lines++) {
            EdgeVerses verses = new EdgeVerses();
            Verses.setEdges(verses, LETTERS.substring(0, lines) + "/" + LETTERS.substring(26 - lines));
            CHECK.due("lines", lines, verses.count(1));
            for (int line = 0; line < lines; line++) {
                CHECK.due("first letter of " + line, (int) LETTERS.charAt(line), verses.line(line, 3));
                int last = LETTERS.charAt(26 - lines + line);
                CHECK.due("last letter of " + line, last, verses.line(line, 4));
            }
            CHECK.due("line " + lines, EdgeVerses.UNKNOWN, verses.line(lines, 3));
            CHECK.due("length of the poem", lines, verses.count(9));
        }
    }

    /** setEdges: "all lines become empty"; "Returns the number of lines then". */
    private static void edgesEmptyAllLines() {
        for (int lines = 0; lines <= 8; lines++) {
            EdgeVerses verses = made(lines);
            CHECK.due("edges that are none", EdgeVerses.NOT_POSSIBLE, Verses.setEdges(verses, "a/aa"));
            CHECK.due("lines that are made", lines, verses.count(2));
            CHECK.due("one line", 1, Verses.setEdges(verses, "a/a"));
            CHECK.due("lines that are made then", 0, verses.count(2));
            CHECK.due("poem then", "/", Verses.poem(verses));
            CHECK.due("eight lines", 8, Verses.setEdges(verses, "aaaaaaaa/aaaaaaaa"));
            CHECK.due("poem then", "////////", Verses.poem(verses));
            CHECK.due("lines that use a then", 0, verses.word(0, 4));
            CHECK.due("the same edges", 8, Verses.setEdges(verses, "aaaaaaaa/aaaaaaaa"));
        }
        EdgeVerses same = made(8);
        int states = same.count(10);
        Verses.setEdges(same, "aaaaaaaa/aaaaaaaa");
        CHECK.due("history after the same edges", states + 1, same.count(10));
        CHECK.due("lines after the same edges", 0, same.count(2));
    }

    /** setEdges: "the letters of the text, which stays" */
    private static void textOfTheEdgesStays() {
        EdgeVerses verses = new EdgeVerses();
        Verses.setEdges(verses, "ab/cd");
        CHECK.due("length then", 5, verses.count(11));
        CHECK.due("setEdges() again", 2, verses.setEdges());
        verses.type('x');
        CHECK.due("setEdges() of the text and x", EdgeVerses.NOT_POSSIBLE, verses.setEdges());
        CHECK.due("length after NOT_POSSIBLE", 6, verses.count(11));
        CHECK.due("addWord() of the text", -102, verses.addWord());
    }
}

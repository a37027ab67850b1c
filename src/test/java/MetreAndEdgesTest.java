/** Promises 7 and 8: the metre and the edges. */
public final class MetreAndEdgesTest {
    private static final Check CHECK = new Check();

    public static void main(String[] args) {
        metresOfEachLength();
        badMetres();
        setMetreEmptiesTheLines();
        setMetreIsAnAct();
        edgesOfEachLength();
        textsThatAreNoEdges();
        setEdgesEmptiesTheLines();
        setEdgesIsAnAct();
        CHECK.finish();
    }

    private static void metresOfEachLength() {
        EdgeVerses verses = new EdgeVerses();
        for (int beats = 2; beats <= 12; beats++) {
            int[] patterns = {0, 1, (1 << beats) - 1, 1 << (beats - 1)};
            for (int strong : patterns) {
                String call = "setMetre(" + beats + ", " + strong + ")";
                CHECK.due(call, 0, verses.setMetre(beats, strong));
                CHECK.due("beats after " + call, beats, verses.count(4));
                CHECK.due("strong beats after " + call, strong, verses.count(5));
            }
        }
    }

    private static void badMetres() {
        EdgeVerses verses = new EdgeVerses();
        int[][] bad = {{1, 0}, {0, 0}, {-1, 0}, {13, 0}, {Integer.MIN_VALUE, 0}, {32, 0}, {34, 1},
            {Integer.MAX_VALUE, 0}, {2, 4}, {2, -1}, {4, 16}, {12, 4096}, {12, Integer.MAX_VALUE},
            {12, Integer.MIN_VALUE}, {3, 8}};
        for (int[] metre : bad) {
            CHECK.due("setMetre(" + metre[0] + ", " + metre[1] + ")", EdgeVerses.BAD_VALUE,
                    verses.setMetre(metre[0], metre[1]));
        }
        CHECK.due("beats after BAD_VALUE", 4, verses.count(4));
        CHECK.due("strong beats after BAD_VALUE", 10, verses.count(5));
        CHECK.due("history after BAD_VALUE", 0, verses.count(10));
    }

    /** Two lines of three, of the word a, that are made. */
    private static EdgeVerses twoLinesMade() {
        EdgeVerses verses = Verses.withWords("a*3");
        Verses.setEdges(verses, "aba/aaa");
        CHECK.due("make()", 2, verses.make());
        return verses;
    }

    private static void setMetreEmptiesTheLines() {
        EdgeVerses verses = twoLinesMade();
        CHECK.due("a bad metre", EdgeVerses.BAD_VALUE, verses.setMetre(4, 16));
        CHECK.due("poem after a bad metre", "a a a a//a a a a/", Verses.poem(verses));
        CHECK.due("the same metre", 2, verses.setMetre(4, 10));
        CHECK.due("poem then", "///", Verses.poem(verses));
        CHECK.due("lines then", 3, verses.count(1));
        CHECK.due("the same metre again", 0, verses.setMetre(4, 10));
        CHECK.due("words then", 0, verses.count(6));
    }

    private static void setMetreIsAnAct() {
        EdgeVerses verses = twoLinesMade();
        String before = Verses.told(verses);
        int states = verses.count(10);
        verses.setMetre(4, 10);
        CHECK.due("history", states + 1, verses.count(10));
        verses.undo();
        CHECK.due("undone", before, Verses.told(verses));
        verses.setMetre(7, 5);
        verses.undo();
        CHECK.due("undone again", before, Verses.told(verses));
    }

    private static void edgesOfEachLength() {
        EdgeVerses verses = new EdgeVerses();
        String first = "abcdwxyz";
        String last = "zyxwdcba";
        for (int lines = 1; lines <= 8; lines++) {
            String text = first.substring(0, lines) + "/" + last.substring(0, lines);
            CHECK.due("setEdges of " + text, lines, Verses.setEdges(verses, text));
            CHECK.due("text after " + text, text.length(), verses.count(11));
            CHECK.due("lines after " + text, lines, verses.count(1));
            CHECK.due("poem after " + text, "/".repeat(lines), Verses.poem(verses));
            for (int line = 0; line < lines; line++) {
                CHECK.due("first letter", (int) first.charAt(line), verses.line(line, 3));
                CHECK.due("last letter", (int) last.charAt(line), verses.line(line, 4));
            }
            CHECK.due("no line more", EdgeVerses.UNKNOWN, verses.line(lines, 0));
        }
    }

    private static void textsThatAreNoEdges() {
        EdgeVerses verses = Verses.withWords("a");
        Verses.setEdges(verses, "ab/ba");
        String[] texts = {"", "/", "a", "a/", "/a", "ab", "ab/c", "a/bc", "a//b", "a/b/", "/a/b",
            "abc", "aab", "ab/b", "abcdefghi/abcdefghi", "A/a", "a/A", "a/1", "'/a", "a/b ", " a/b",
            "ab/b-", "ab-ba", "a-/ba", "ab/ba/", "a/b/c", "//a", "a//", "///", "abcdefgh/abcdefg",
            "a{/aa", "aa/a`", "" + (char) ('a' + 256) + "/a", "a" + (char) ('/' + 256) + "a"};
        for (String text : texts) {
            CHECK.due("setEdges of " + text, EdgeVerses.NOT_POSSIBLE, Verses.setEdges(verses, text));
        }
        CHECK.due("lines after NOT_POSSIBLE", 2, verses.count(1));
        CHECK.due("last letter after NOT_POSSIBLE", (int) 'b', verses.line(0, 4));
        CHECK.due("history after NOT_POSSIBLE", 2, verses.count(10));
        CHECK.due("text of 40 characters", EdgeVerses.NOT_POSSIBLE,
                Verses.setEdges(verses, "a".repeat(20) + "/" + "a".repeat(19)));
    }

    private static void setEdgesEmptiesTheLines() {
        EdgeVerses verses = twoLinesMade();
        CHECK.due("the same edges", 3, Verses.setEdges(verses, "aba/aaa"));
        CHECK.due("poem then", "///", Verses.poem(verses));
        verses.make();
        CHECK.due("fewer lines", 1, Verses.setEdges(verses, "b/a"));
        CHECK.due("poem then", "/", Verses.poem(verses));
        CHECK.due("lines that use a", 0, verses.word(0, 4));
        CHECK.due("more lines", 4, Verses.setEdges(verses, "aaaa/aaaa"));
        CHECK.due("poem then", "////", Verses.poem(verses));
    }

    private static void setEdgesIsAnAct() {
        EdgeVerses verses = twoLinesMade();
        String before = Verses.told(verses);
        int states = verses.count(10);
        Verses.setEdges(verses, "aba/aaa");
        CHECK.due("history", states + 1, verses.count(10));
        verses.undo();
        CHECK.due("undone", before, Verses.told(verses));
        Verses.setEdges(verses, "x/y");
        verses.undo();
        CHECK.due("undone again", before, Verses.told(verses));
        Verses.setEdges(verses, "x/");
        CHECK.due("history after NOT_POSSIBLE", states, verses.count(10));
    }
}

import java.math.BigInteger;
import java.util.ArrayList;
import java.util.List;

/**
 * Promises 9, 10, 17 and 19 with as many words, beats and lines as there can be, where the model of
 * ModelTest, which lists all rows, would be too slow: RowSearch tells what is due.
 */
public final class LargeStoreTest {
    private static final int RUNS = 300;
    private static final int CALLS = 512;
    private static final BigInteger MOST_ROWS_TOLD = BigInteger.valueOf(1000);
    private static final Check CHECK = new Check();

    private final EdgeVerses verses = new EdgeVerses();
    private final List<RowSearch.Word> words = new ArrayList<>();
    private final List<List<Integer>> lines = new ArrayList<>();
    private final String run;
    private long seed;
    private int calls = 0;
    private String metre = "";
    private String first = "";
    private String last = "";

    private LargeStoreTest(int number) {
        seed = number * 104729L + 11;
        run = "run " + number + ", call ";
    }

    public static void main(String[] args) {
        for (int number = 0; number < RUNS; number++) {
            new LargeStoreTest(number).play();
        }
        CHECK.finish();
    }

    /** The same numbers for the same seed, on each machine. */
    private int below(int bound) {
        seed = seed * 6364136223846793005L + 1442695040888963407L;
        return (int) ((seed >>> 33) % bound);
    }

    private void due(String call, int want, int got) {
        calls++;
        CHECK.due(run + calls + ", " + call, want, got);
    }

    private void play() {
        addWords(below(2) == 0 ? 40 : 3 + below(10), 1 + below(4));
        setMetre(9 + below(4));
        setEdges(4 + below(5));
        linesAsTold();
        make();
        while (calls + 40 < CALLS) {
            makeLineAgain(below(lines.size()));
        }
    }

    private void typeText(String text) {
        verses.clearText();
        calls++;
        for (char sign : text.toCharArray()) {
            verses.type(sign);
            calls++;
        }
    }

    private char letter(int letters) {
        return (char) ('a' + below(letters));
    }

    private void addWords(int most, int mostSyllables) {
        while (words.size() < most && calls < 270) {
            StringBuilder text = new StringBuilder();
            StringBuilder letters = new StringBuilder();
            StringBuilder stresses = new StringBuilder();
            for (int syllables = 1 + below(mostSyllables); syllables > 0; syllables--) {
                boolean strong = below(2) == 0;
                char letter = letter(4);
                text.append(letters.length() == 0 ? "" : "-").append(strong ? "'" : "").append(letter);
                letters.append(letter);
                stresses.append(strong ? '\'' : '.');
            }
            if (letters.length() == 1) {
                char end = letter(12);
                text.append(end);
                letters.append(end);
            }
            addWord(text.toString(), letters.toString(), stresses.toString(), 1 + below(3));
        }
    }

    private void addWord(String text, String letters, String stresses, int limit) {
        typeText(text + "*" + limit);
        if (words.stream().anyMatch(word -> word.letters().equals(letters))) {
            due("addWord() of " + text, EdgeVerses.NOT_POSSIBLE, verses.addWord());
        } else {
            due("addWord() of " + text, words.size(), verses.addWord());
            words.add(new RowSearch.Word(letters, stresses, limit));
        }
    }

    private void setMetre(int beats) {
        int strong = below(1 << beats);
        due("setMetre()", 0, verses.setMetre(beats, strong));
        StringBuilder signs = new StringBuilder();
        for (int beat = 0; beat < beats; beat++) {
            signs.append((strong >> beat & 1) == 1 ? '\'' : '.');
        }
        metre = signs.toString();
    }

    private void setEdges(int letters) {
        StringBuilder edges = new StringBuilder();
        for (int letter = 0; letter < letters * 2; letter++) {
            edges.append(letter(4));
        }
        first = edges.substring(0, letters);
        last = edges.substring(letters);
        typeText(first + "/" + last);
        due("setEdges()", letters, verses.setEdges());
        for (int line = 0; line < letters; line++) {
            lines.add(List.of());
        }
    }

    private RowSearch search(int line, RowSearch.Kind kind) {
        List<Integer> left = new ArrayList<>();
        for (int word = 0; word < words.size(); word++) {
            int used = 0;
            for (int other = 0; other < lines.size(); other++) {
                used += other != line && lines.get(other).contains(word) ? 1 : 0;
            }
            if (used < words.get(word).limit()) {
                left.add(word);
            }
        }
        return new RowSearch(words, left, metre, first.charAt(line), last.charAt(line), kind);
    }

    private void linesAsTold() {
        for (int line = 0; line < lines.size(); line++) {
            rowsAsTold(line);
        }
        nearMissAsTold(below(lines.size()));
    }

    private void rowsAsTold(int line) {
        BigInteger rows = search(line, RowSearch.Kind.LINE).rows();
        due("line(" + line + ", 5)", rows.min(MOST_ROWS_TOLD).intValue(), verses.line(line, 5));
    }

    private void nearMissAsTold(int line) {
        List<Integer> row = search(line, RowSearch.Kind.NEAR_MISS).firstRow();
        for (int place = 0; place <= row.size(); place++) {
            int word = place < row.size() ? row.get(place) : EdgeVerses.NONE;
            due("nearMiss(" + line + ", " + place + ")", word, verses.nearMiss(line, place));
        }
    }

    private void wordsAsDue(int line) {
        List<Integer> row = lines.get(line);
        for (int place = 0; place <= row.size(); place++) {
            int word = place < row.size() ? row.get(place) : EdgeVerses.NONE;
            due("wordAt(" + line + ", " + place + ")", word, verses.wordAt(line, place));
        }
    }

    private void make() {
        int made = 0;
        for (int line = 0; line < lines.size(); line++) {
            lines.set(line, search(line, RowSearch.Kind.LINE).firstRow());
            made += lines.get(line).isEmpty() ? 0 : 1;
        }
        due("make()", made == 0 ? EdgeVerses.NONE : made, verses.make());
        due("count(2)", made, verses.count(2));
        for (int line = 0; line < lines.size(); line++) {
            wordsAsDue(line);
        }
    }

    /** With a line fewer, another one can be better, or can be made at all. */
    private void makeLineAgain(int line) {
        int cleared = below(lines.size());
        int words = lines.get(cleared).size();
        due("clearLine(" + cleared + ")", words == 0 ? EdgeVerses.NONE : words, verses.clearLine(cleared));
        lines.set(cleared, List.of());
        rowsAsTold(line);
        nearMissAsTold(line);
        List<Integer> row = search(line, RowSearch.Kind.LINE).firstRow();
        due("makeLine(" + line + ")", row.isEmpty() ? EdgeVerses.NONE : row.size(), verses.makeLine(line));
        if (!row.isEmpty()) {
            lines.set(line, row);
        }
        wordsAsDue(line);
    }
}

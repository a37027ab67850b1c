/** All promises: long runs of calls, whose answers have to be those of the plain model. */
public final class ModelTest {
    private static final int RUNS = 400;
    private static final int CALLS = 512;
    private static final int[] ODD = {-1, Integer.MIN_VALUE, Integer.MAX_VALUE, 8, 12, 13, 40};
    private static final Check CHECK = new Check();

    private EdgeVerses verses = new EdgeVerses();
    private Model model = new Model();
    private long seed;
    private int calls = 0;
    /** How many words and beats this run strives for, so that the model can list all rows. */
    private final int mostWords;
    private final int mostBeats;
    private final String run;

    private ModelTest(int number) {
        int[][] sizes = {{4, 6}, {6, 4}, {15, 3}, {40, 2}, {2, 12}, {8, 4}};
        int[] size = sizes[number % sizes.length];
        mostWords = size[0];
        mostBeats = size[1];
        seed = number * 7919L + 17;
        run = "run " + number + ", ";
    }

    public static void main(String[] args) {
        for (int number = 0; number < RUNS; number++) {
            new ModelTest(number).play();
        }
        CHECK.finish();
    }

    /** The same numbers for the same seed, on each machine. */
    private int below(int bound) {
        seed = seed * 6364136223846793005L + 1442695040888963407L;
        return (int) ((seed >>> 33) % bound);
    }

    private int upTo(int most) {
        return below(20) == 0 ? ODD[below(ODD.length)] : below(most + 1);
    }

    private void due(String call, int want, int got) {
        calls++;
        CHECK.due(run + "call " + calls + ", " + call, want, got);
    }

    private void play() {
        setBeats();
        while (calls < CALLS - 20) {
            if (below(3) == 0) {
                change();
            } else {
                ask();
            }
        }
    }

    private void typeText(String text) {
        due("clearText()", model.clearText(), verses.clearText());
        for (char character : text.toCharArray()) {
            due("type " + character, model.type(character), verses.type(character));
        }
    }

    private char letter() {
        return (char) ('a' + below(3));
    }

    private String wordText() {
        StringBuilder text = new StringBuilder();
        int syllables = 1 + below(below(3) == 0 ? 4 : 2);
        for (int syllable = 0; syllable < syllables; syllable++) {
            text.append(syllable > 0 ? "-" : "").append(below(2) == 0 ? "'" : "").append(letter());
            while (below(3) == 0) {
                text.append(letter());
            }
        }
        if (below(2) == 0) {
            text.append('*').append((char) ('1' + below(below(2) == 0 ? 9 : 3)));
        }
        if (below(8) == 0) {
            text.setCharAt(below(text.length()), "a'-*19/0 Az".charAt(below(11)));
        }
        return text.toString();
    }

    private void addWord() {
        typeText(wordText());
        int words = model.count(0);
        if (words < mostWords || words == 40) {
            due("addWord()", model.addWord(), verses.addWord());
        }
        due("find()", model.find(), verses.find());
    }

    private void setEdges() {
        StringBuilder text = new StringBuilder();
        int lines = 1 + below(4);
        for (int letters = 0; letters < lines * 2 + (below(10) == 0 ? 1 : 0); letters++) {
            text.append(letters == lines ? "/" : "").append(letter());
        }
        typeText(text.toString());
        due("setEdges()", model.setEdges(), verses.setEdges());
    }

    private void setBeats() {
        int beats = 2 + below(mostBeats - 1);
        int strong = below(1 << beats);
        due("setMetre(" + beats + ", " + strong + ")", model.setMetre(beats, strong),
                verses.setMetre(beats, strong));
        int odd = ODD[below(3)];
        due("setMetre(2, odd)", model.setMetre(2, odd), verses.setMetre(2, odd));
        due("setMetre(odd, 0)", model.setMetre(odd, 0), verses.setMetre(odd, 0));
    }

    private void change() {
        int line = upTo(model.count(1));
        int word = upTo(model.count(0));
        int slot = upTo(1);
        switch (below(20)) {
            case 0: setEdges(); break;
            case 1: setBeats(); break;
            case 2: due("removeWord(" + word + ")", model.removeWord(word), verses.removeWord(word)); break;
            case 3: case 4: setLimit(word); break;
            case 5: case 6: due("makeLine(" + line + ")", model.makeLine(line), verses.makeLine(line)); break;
            case 7: case 8: case 9: due("make()", model.make(), verses.make()); break;
            case 10: due("clearLine(" + line + ")", model.clearLine(line), verses.clearLine(line)); break;
            case 11: case 12: due("undo()", model.undo(), verses.undo()); break;
            case 13: due("keep(" + slot + ")", model.keep(slot), verses.keep(slot)); break;
            case 14: due("restore(" + slot + ")", model.restore(slot), verses.restore(slot)); break;
            default: addWord(); break;
        }
    }

    private void setLimit(int word) {
        int limit = upTo(4);
        due("setLimit(" + word + ", " + limit + ")", model.setLimit(word, limit),
                verses.setLimit(word, limit));
    }

    private void ask() {
        int line = upTo(model.count(1));
        int word = upTo(model.count(0));
        int place = upTo(mostBeats);
        int index = upTo(model.count(9));
        int what = upTo(12);
        switch (below(7)) {
            case 0: due("word(" + word + ", " + what + ")", model.word(word, what), verses.word(word, what)); break;
            case 1: due("letterAt(" + word + ", " + place + ")", model.letterAt(word, place), verses.letterAt(word, place)); break;
            case 2: due("line(" + line + ", " + what % 6 + ")", model.line(line, what % 6), verses.line(line, what % 6)); break;
            case 3: due("wordAt(" + line + ", " + place + ")", model.wordAt(line, place), verses.wordAt(line, place)); break;
            case 4: due("nearMiss(" + line + ", " + place + ")", model.nearMiss(line, place), verses.nearMiss(line, place)); break;
            case 5: due("poemAt(" + index + ")", model.poemAt(index), verses.poemAt(index)); break;
            default: due("count(" + what + ")", model.count(what), verses.count(what)); break;
        }
    }
}

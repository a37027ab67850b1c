import java.util.List;
import java.util.function.Function;
import java.util.function.Supplier;
import java.util.function.ToIntFunction;

/**
 * Two objects that are brought to the same state: a call that changes nothing is made on one of
 * them alone, and then both have to tell the same, whatever is called later. Each kind of telling
 * has twins of its own, since it may change the state, and an object is used for 512 calls alone.
 */
final class Twins {
    private static final List<Function<EdgeVerses, String>> TELLINGS = List.of(
            Twins::counts, Twins::words, Twins::letters, Twins::lines, Twins::nearMisses,
            Verses::poem, Twins::undone, verses -> restored(verses, 0),
            verses -> restored(verses, 1), Twins::text, Twins::wordOfTheText,
            Twins::edgesOfTheText, Twins::roomOfTheText, Twins::made);

    private final Check check;
    private final String name;
    private final Supplier<EdgeVerses> start;

    Twins(Check check, String name, Supplier<EdgeVerses> start) {
        this.check = check;
        this.name = name;
        this.start = start;
    }

    /** The call answers what is due, and changes nothing. */
    void unchanged(String call, int due, ToIntFunction<EdgeVerses> refused) {
        for (Function<EdgeVerses, String> telling : TELLINGS) {
            EdgeVerses called = start.get();
            check.due(name + ": " + call, due, refused.applyAsInt(called));
            check.due(name + ": told after " + call, telling.apply(start.get()), telling.apply(called));
        }
    }

    private static String counts(EdgeVerses verses) {
        StringBuilder told = new StringBuilder();
        for (int what = 0; what <= 11; what++) {
            told.append(verses.count(what)).append(' ');
        }
        return told.toString();
    }

    private static String words(EdgeVerses verses) {
        StringBuilder told = new StringBuilder();
        for (int word = 0; verses.word(word, 0) >= 0; word++) {
            for (int what = 1; what <= 7; what++) {
                told.append(verses.word(word, what)).append(what == 7 ? "; " : " ");
            }
        }
        return told.toString();
    }

    private static String letters(EdgeVerses verses) {
        StringBuilder told = new StringBuilder();
        for (int word = 0; verses.word(word, 0) >= 0; word++) {
            told.append(Verses.letters(verses, word)).append(' ');
        }
        return told.toString();
    }

    private static String lines(EdgeVerses verses) {
        StringBuilder told = new StringBuilder();
        for (int line = 0; verses.line(line, 0) >= 0; line++) {
            for (int what = 0; what <= 5; what++) {
                told.append(verses.line(line, what)).append(' ');
            }
            for (int place = 0; verses.wordAt(line, place) >= 0; place++) {
                told.append(" word ").append(verses.wordAt(line, place));
            }
            told.append("; ");
        }
        return told.toString();
    }

    private static String nearMisses(EdgeVerses verses) {
        StringBuilder told = new StringBuilder();
        for (int line = 0; verses.line(line, 0) >= 0; line++) {
            told.append(Verses.nearMiss(verses, line)).append("; ");
        }
        return told.toString();
    }

    /** So short that six states of a full store can be told. */
    private static String stateInShort(EdgeVerses verses) {
        StringBuilder told = new StringBuilder(Verses.poem(verses)).append(counts(verses));
        for (int word = 0; word < 12 && verses.word(word, 3) >= 0; word++) {
            told.append(verses.word(word, 3)).append((char) verses.word(word, 5));
        }
        return told.append('\n').toString();
    }

    /** All states of the history. */
    private static String undone(EdgeVerses verses) {
        StringBuilder told = new StringBuilder();
        for (int left = verses.undo(); left >= 0; left = verses.undo()) {
            told.append(left).append(": ").append(stateInShort(verses));
        }
        return told.toString();
    }

    private static String restored(EdgeVerses verses, int slot) {
        return verses.restore(slot) + ": " + stateInShort(verses);
    }

    private static String text(EdgeVerses verses) {
        return verses.find() + " " + verses.clearText() + " " + verses.clearText();
    }

    private static String wordOfTheText(EdgeVerses verses) {
        int word = verses.addWord();
        return word + " " + Verses.letters(verses, word) + " " + verses.word(word, 2) + " "
                + verses.word(word, 3);
    }

    private static String edgesOfTheText(EdgeVerses verses) {
        return verses.setEdges() + " " + verses.line(0, 3) + " " + verses.line(0, 4);
    }

    private static String roomOfTheText(EdgeVerses verses) {
        return verses.type('z') + " " + verses.addWord() + " " + verses.find();
    }

    /** What is made of the state then. */
    private static String made(EdgeVerses verses) {
        return verses.make() + " " + verses.makeLine(0) + " " + verses.clearLine(0) + " "
                + Verses.poem(verses);
    }
}

/** Calls that tests make again and again on an EdgeVerses, and what it tells as one text. */
final class Verses {
    private Verses() {
    }

    /** Empties the text and types another one. */
    static EdgeVerses typed(EdgeVerses verses, String text) {
        verses.clearText();
        for (char character : text.toCharArray()) {
            verses.type(character);
        }
        return verses;
    }

    static int addWord(EdgeVerses verses, String text) {
        return typed(verses, text).addWord();
    }

    static int setEdges(EdgeVerses verses, String text) {
        return typed(verses, text).setEdges();
    }

    static int find(EdgeVerses verses, String text) {
        return typed(verses, text).find();
    }

    /** A new object with these words. */
    static EdgeVerses withWords(String... words) {
        EdgeVerses verses = new EdgeVerses();
        for (String word : words) {
            addWord(verses, word);
        }
        verses.clearText();
        return verses;
    }

    /** A new object with 40 words, in few calls: "a" to "z", and then "aa" to "an". */
    static EdgeVerses withFullStore() {
        EdgeVerses verses = new EdgeVerses();
        for (int word = 0; word < 40; word++) {
            addWord(verses, (word < 26 ? "" : "a") + (char) ('a' + word % 26));
        }
        return verses;
    }

    /** The metre as a text of signs: "'" for a strong beat, "." for a weak one. */
    static int setMetre(EdgeVerses verses, String beats) {
        int strong = 0;
        for (int beat = 0; beat < beats.length(); beat++) {
            strong |= beats.charAt(beat) == '\'' ? 1 << beat : 0;
        }
        return verses.setMetre(beats.length(), strong);
    }

    /** The poem, as poemAt() reads it. */
    static String poem(EdgeVerses verses) {
        StringBuilder poem = new StringBuilder();
        for (int index = 0; verses.poemAt(index) >= 0; index++) {
            poem.append((char) verses.poemAt(index));
        }
        return poem.toString();
    }

    static String letters(EdgeVerses verses, int word) {
        StringBuilder letters = new StringBuilder();
        for (int index = 0; verses.letterAt(word, index) >= 0; index++) {
            letters.append((char) verses.letterAt(word, index));
        }
        return letters.toString();
    }

    /** The best near miss for a line, its words with blanks between; empty if there is none. */
    static String nearMiss(EdgeVerses verses, int line) {
        StringBuilder row = new StringBuilder();
        for (int place = 0; verses.nearMiss(line, place) >= 0; place++) {
            row.append(place == 0 ? "" : " ").append(letters(verses, verses.nearMiss(line, place)));
        }
        return row.toString();
    }

    /** All that is told of the state, so that two states can be compared. */
    static String told(EdgeVerses verses) {
        StringBuilder told = new StringBuilder(poem(verses));
        for (int word = 0; word < verses.count(0); word++) {
            told.append(' ').append(letters(verses, word));
            for (int what = 0; what <= 7; what++) {
                told.append(',').append(verses.word(word, what));
            }
        }
        for (int line = 0; line < verses.count(1); line++) {
            told.append(" line");
            for (int what = 0; what <= 5; what++) {
                told.append(',').append(verses.line(line, what));
            }
        }
        told.append(" metre ").append(verses.count(4)).append(',').append(verses.count(5));
        return told.toString();
    }
}

/**
 * Verses whose first letters and last letters spell words. What each call answers is told, promise
 * by promise, in ../shared/DOC.md; the numbers at the methods are the promises there.
 *
 * <p>Everything that a call needs is made in the constructors and used again: no call makes an
 * object.
 */
public final class EdgeVerses {
    public static final int UNKNOWN = -1;
    public static final int BAD_VALUE = -2;
    public static final int FULL = -3;
    public static final int NOT_POSSIBLE = -4;
    public static final int NONE = -5;

    private static final int MAX_TEXT = 40;
    private static final int MAX_WORDS = 40;
    private static final int MAX_LETTERS = 8;
    private static final int MAX_SYLLABLES = 4;
    private static final int MAX_LIMIT = 9;
    private static final int MIN_BEATS = 2;
    private static final int MAX_BEATS = 12;
    private static final int MAX_LINES = 8;
    private static final int MAX_STATES = 5;
    private static final int SLOTS = 2;
    private static final int MAX_ROWS_TOLD = 1000;
    private static final int FAULT_BASE = -100;

    private static final int NO_FAULT = -1;
    private static final int NOT_FOUND = -1;
    private static final int NO_CODE = -1;
    /** Letters are packed into a long, the first one lowest; 0 is no word's packing. */
    private static final int BITS_OF_LETTER = 8;
    private static final long NO_LETTERS = 0L;

    private final Text text = new Text();
    private final WordReader reader = new WordReader();
    private final State state = new State();
    private final History history = new History();
    private final Snapshots snapshots = new Snapshots();
    private final LineSearch search = new LineSearch();
    private final LineSearch otherSearch = new LineSearch();

    /** Promise 1. */
    public EdgeVerses() {
    }

    // ---- words

    /** Promise 2. */
    public int type(char character) {
        return text.append(character) ? text.size() : FULL;
    }

    /** Promise 3. */
    public int clearText() {
        int length = text.size();
        text.empty();
        return length;
    }

    /** Promise 4. */
    public int addWord() {
        int fault = reader.readWord(text);
        if (fault != NO_FAULT) {
            return FAULT_BASE - fault;
        }
        if (state.words.indexOf(reader.letters) != NOT_FOUND) {
            return NOT_POSSIBLE;
        }
        if (state.words.isFull()) {
            return FULL;
        }
        history.record(state);
        state.words.append(reader);
        return state.words.size() - 1;
    }

    /** Promise 5. */
    public int removeWord(int word) {
        if (!state.words.has(word)) {
            return UNKNOWN;
        }
        history.record(state);
        state.words.drop(word);
        return state.poem.forgetWord(word);
    }

    /** Promise 6. */
    public int setLimit(int word, int limit) {
        if (!state.words.has(word)) {
            return UNKNOWN;
        }
        if (limit < 1 || limit > MAX_LIMIT) {
            return BAD_VALUE;
        }
        if (state.poem.linesUsing(word) > limit) {
            return NOT_POSSIBLE;
        }
        int previous = state.words.limitOf(word);
        if (previous == limit) {
            return NONE;
        }
        history.record(state);
        state.words.changeLimit(word, limit);
        return previous;
    }

    // ---- metre and edges

    /** Promise 7. */
    public int setMetre(int beats, int strong) {
        if (beats < MIN_BEATS || beats > MAX_BEATS || strong < 0 || strong >= 1 << beats) {
            return BAD_VALUE;
        }
        history.record(state);
        state.metre.change(beats, strong);
        return state.poem.emptyAllLines();
    }

    /** Promise 8. */
    public int setEdges() {
        int lines = text.edgeLength();
        if (lines == NOT_FOUND) {
            return NOT_POSSIBLE;
        }
        history.record(state);
        state.poem.changeEdges(text, lines);
        return lines;
    }

    // ---- lines

    /** Promise 9. */
    public int makeLine(int line) {
        if (!state.poem.has(line)) {
            return UNKNOWN;
        }
        if (!search.seek(state, line, true, true)) {
            return NONE;
        }
        history.record(state);
        search.putInto(state.poem, line);
        return state.poem.wordsIn(line);
    }

    /** Promise 10. */
    public int make() {
        int made = 0;
        for (int line = 0; line < state.poem.size(); line++) {
            if (state.poem.wordsIn(line) == 0 && search.seek(state, line, true, true)) {
                // The state before the act is the one before the first line that is made.
                if (made == 0) {
                    history.record(state);
                }
                search.putInto(state.poem, line);
                made++;
            }
        }
        return made == 0 ? NONE : made;
    }

    /** Promise 11. */
    public int clearLine(int line) {
        if (!state.poem.has(line)) {
            return UNKNOWN;
        }
        int words = state.poem.wordsIn(line);
        if (words == 0) {
            return NONE;
        }
        history.record(state);
        state.poem.emptyLine(line);
        return words;
    }

    // ---- history

    /** Promise 12. */
    public int undo() {
        if (history.size() == 0) {
            return NONE;
        }
        history.takeLatest(state);
        return history.size();
    }

    /** Promise 13. */
    public int keep(int slot) {
        if (!snapshots.has(slot)) {
            return UNKNOWN;
        }
        snapshots.take(slot, state);
        return state.words.size();
    }

    /** Promise 14. */
    public int restore(int slot) {
        if (!snapshots.has(slot)) {
            return UNKNOWN;
        }
        if (!snapshots.isTaken(slot)) {
            return NONE;
        }
        history.record(state);
        snapshots.copyTo(slot, state);
        return state.words.size();
    }

    // ---- what is told

    /** Promise 15. */
    public int word(int word, int what) {
        if (!state.words.has(word)) {
            return UNKNOWN;
        }
        switch (what) {
            case 0: return state.words.letterCountOf(word);
            case 1: return state.words.syllablesOf(word);
            case 2: return state.words.strongOf(word);
            case 3: return state.words.limitOf(word);
            case 4: return state.poem.linesUsing(word);
            case 5: return state.words.firstLetterOf(word);
            case 6: return state.words.lastLetterOf(word);
            case 7: return state.beatsFor(word);
            default: return BAD_VALUE;
        }
    }

    /** Promise 16. */
    public int letterAt(int word, int index) {
        if (!state.words.has(word)) {
            return UNKNOWN;
        }
        if (index < 0) {
            return BAD_VALUE;
        }
        return index < state.words.letterCountOf(word) ? state.words.letterOf(word, index) : NONE;
    }

    /** Promise 17. */
    public int line(int line, int what) {
        if (!state.poem.has(line)) {
            return UNKNOWN;
        }
        switch (what) {
            case 0: return state.poem.wordsIn(line);
            case 1: return state.bendsIn(line);
            case 2: return state.lettersIn(line);
            case 3: return state.poem.firstLetterOf(line);
            case 4: return state.poem.lastLetterOf(line);
            case 5: return search.countRows(state, line);
            default: return BAD_VALUE;
        }
    }

    /** Promise 18. */
    public int wordAt(int line, int place) {
        if (!state.poem.has(line)) {
            return UNKNOWN;
        }
        if (place < 0) {
            return BAD_VALUE;
        }
        return place < state.poem.wordsIn(line) ? state.poem.wordIn(line, place) : NONE;
    }

    /** Promise 19. */
    public int nearMiss(int line, int place) {
        if (!state.poem.has(line)) {
            return UNKNOWN;
        }
        if (place < 0) {
            return BAD_VALUE;
        }
        search.seek(state, line, true, false);
        otherSearch.seek(state, line, false, true);
        LineSearch best = otherSearch.comesBefore(search) ? otherSearch : search;
        return place < best.size() ? best.wordIn(place) : NONE;
    }

    /** Promise 20. */
    public int find() {
        long letters = text.plainLetters();
        int found = letters == NO_LETTERS ? NOT_FOUND : state.words.indexOf(letters);
        return found == NOT_FOUND ? NONE : found;
    }

    /** Promise 21. */
    public int poemAt(int index) {
        if (index < 0) {
            return BAD_VALUE;
        }
        int code = state.codeAt(index);
        return code == NO_CODE ? NONE : code;
    }

    /** Promise 22. */
    public int count(int what) {
        switch (what) {
            case 0: return state.words.size();
            case 1: return state.poem.size();
            case 2: return state.poem.madeLines();
            case 3: return state.bendsInAll();
            case 4: return state.metre.beats;
            case 5: return state.metre.strong;
            case 6: return state.usedWords();
            case 7: return state.usedUpWords();
            case 8: return state.wordsWithBeats();
            case 9: return state.poemLength();
            case 10: return history.size();
            case 11: return text.size();
            default: return BAD_VALUE;
        }
    }

    private static boolean isLetter(int code) {
        return code >= 'a' && code <= 'z';
    }

    private static long packed(int code, int index) {
        return (long) code << (BITS_OF_LETTER * index);
    }

    /** The text that is typed. */
    private static final class Text {
        private final int[] codes = new int[MAX_TEXT];
        private int length;

        int size() {
            return length;
        }

        int codeAt(int index) {
            return index >= 0 && index < length ? codes[index] : NO_CODE;
        }

        boolean append(int code) {
            if (length >= MAX_TEXT) {
                return false;
            }
            codes[length] = code;
            length++;
            return true;
        }

        void empty() {
            length = 0;
        }

        private boolean hasLetters(int from, int to) {
            for (int index = from; index < to; index++) {
                if (!isLetter(codeAt(index))) {
                    return false;
                }
            }
            return true;
        }

        /** The letters of the text, packed; NO_LETTERS if it isn't just the letters of a word. */
        long plainLetters() {
            if (length > MAX_LETTERS || !hasLetters(0, length)) {
                return NO_LETTERS;
            }
            long letters = NO_LETTERS;
            for (int index = 0; index < length; index++) {
                letters |= packed(codeAt(index), index);
            }
            return letters;
        }

        /** How many letters each of the two edges has; NOT_FOUND if the text isn't two edges. */
        int edgeLength() {
            int half = length / 2;
            boolean twoEdges = length % 2 == 1 && half >= 1 && half <= MAX_LINES
                    && hasLetters(0, half) && codeAt(half) == '/' && hasLetters(half + 1, length);
            return twoEdges ? half : NOT_FOUND;
        }
    }

    /** Reads a text as a word, sign by sign. */
    private static final class WordReader {
        private static final int AT_SYLLABLE = 0;
        private static final int BEHIND_STRESS = 1;
        private static final int IN_SYLLABLE = 2;
        private static final int BEHIND_STAR = 3;
        private static final int AT_END = 4;

        private int place;
        private long letters;
        private int letterCount;
        private int syllables;
        private int strong;
        private int limit;

        /** The fault of the text, or NO_FAULT: then the fields tell the word. */
        int readWord(Text text) {
            place = AT_SYLLABLE;
            letters = NO_LETTERS;
            letterCount = 0;
            syllables = 0;
            strong = 0;
            limit = 1;
            for (int index = 0; index < text.size(); index++) {
                if (!takes(text.codeAt(index))) {
                    return index;
                }
            }
            return place == IN_SYLLABLE || place == AT_END ? NO_FAULT : text.size();
        }

        private boolean takes(int code) {
            switch (place) {
                case AT_SYLLABLE: return takesStress(code) || takesLetter(code);
                case BEHIND_STRESS: return takesLetter(code);
                case IN_SYLLABLE: return takesLetter(code) || takesHyphen(code) || takesStar(code);
                case BEHIND_STAR: return takesDigit(code);
                default: return false;
            }
        }

        private boolean takesStress(int code) {
            if (code != '\'') {
                return false;
            }
            strong |= 1 << syllables;
            place = BEHIND_STRESS;
            return true;
        }

        private boolean takesLetter(int code) {
            if (!isLetter(code) || letterCount >= MAX_LETTERS) {
                return false;
            }
            if (place != IN_SYLLABLE) {
                syllables++;
                place = IN_SYLLABLE;
            }
            letters |= packed(code, letterCount);
            letterCount++;
            return true;
        }

        private boolean takesHyphen(int code) {
            if (code != '-' || syllables >= MAX_SYLLABLES) {
                return false;
            }
            place = AT_SYLLABLE;
            return true;
        }

        private boolean takesStar(int code) {
            if (code != '*') {
                return false;
            }
            place = BEHIND_STAR;
            return true;
        }

        private boolean takesDigit(int code) {
            if (code < '1' || code > '0' + MAX_LIMIT) {
                return false;
            }
            limit = code - '0';
            place = AT_END;
            return true;
        }
    }

    /** The words, in the order in which they were added. */
    private static final class WordStore {
        private int size;
        private final long[] letters = new long[MAX_WORDS];
        private final int[] letterCounts = new int[MAX_WORDS];
        private final int[] syllables = new int[MAX_WORDS];
        private final int[] strong = new int[MAX_WORDS];
        private final int[] limits = new int[MAX_WORDS];

        int size() {
            return size;
        }

        boolean isFull() {
            return size >= MAX_WORDS;
        }

        boolean has(int word) {
            return word >= 0 && word < size;
        }

        int letterCountOf(int word) {
            return has(word) ? letterCounts[word] : 0;
        }

        int syllablesOf(int word) {
            return has(word) ? syllables[word] : 0;
        }

        /** The strong syllables, the bit k for the syllable k. */
        int strongOf(int word) {
            return has(word) ? strong[word] : 0;
        }

        int limitOf(int word) {
            return has(word) ? limits[word] : 0;
        }

        int letterOf(int word, int index) {
            if (!has(word) || index < 0 || index >= letterCounts[word]) {
                return NO_CODE;
            }
            int mask = (1 << BITS_OF_LETTER) - 1;
            return (int) (letters[word] >>> (BITS_OF_LETTER * index)) & mask;
        }

        int firstLetterOf(int word) {
            return letterOf(word, 0);
        }

        int lastLetterOf(int word) {
            return letterOf(word, letterCountOf(word) - 1);
        }

        int indexOf(long packedLetters) {
            for (int word = 0; word < size; word++) {
                if (letters[word] == packedLetters) {
                    return word;
                }
            }
            return NOT_FOUND;
        }

        void append(WordReader reader) {
            if (isFull()) {
                return;
            }
            letters[size] = reader.letters;
            letterCounts[size] = reader.letterCount;
            syllables[size] = reader.syllables;
            strong[size] = reader.strong;
            limits[size] = reader.limit;
            size++;
        }

        void drop(int word) {
            if (!has(word)) {
                return;
            }
            size--;
            for (int index = word; index < size; index++) {
                letters[index] = letters[index + 1];
                letterCounts[index] = letterCounts[index + 1];
                syllables[index] = syllables[index + 1];
                strong[index] = strong[index + 1];
                limits[index] = limits[index + 1];
            }
        }

        void changeLimit(int word, int limit) {
            if (has(word)) {
                limits[word] = limit;
            }
        }

        void copyFrom(WordStore other) {
            size = other.size;
            System.arraycopy(other.letters, 0, letters, 0, MAX_WORDS);
            System.arraycopy(other.letterCounts, 0, letterCounts, 0, MAX_WORDS);
            System.arraycopy(other.syllables, 0, syllables, 0, MAX_WORDS);
            System.arraycopy(other.strong, 0, strong, 0, MAX_WORDS);
            System.arraycopy(other.limits, 0, limits, 0, MAX_WORDS);
        }
    }

    /** The pattern of strong and weak beats. */
    private static final class Metre {
        private int beats = 4;
        /** The bit k for the beat k; at first: weak, strong, weak, strong. */
        private int strong = 10;

        void change(int newBeats, int newStrong) {
            beats = newBeats;
            strong = newStrong;
        }

        /** Whether the word can begin on the beat. */
        boolean fits(WordStore words, int word, int beat) {
            int syllables = words.syllablesOf(word);
            if (beat + syllables > beats) {
                return false;
            }
            return syllables == 1 || strongFrom(beat, syllables) == words.strongOf(word);
        }

        /** 1 if the word, on a beat that it fits, is a bend there, or else 0. */
        int bends(WordStore words, int word, int beat) {
            return strongFrom(beat, words.syllablesOf(word)) == words.strongOf(word) ? 0 : 1;
        }

        private int strongFrom(int beat, int howMany) {
            return (strong >>> beat) & ((1 << howMany) - 1);
        }

        void copyFrom(Metre other) {
            change(other.beats, other.strong);
        }
    }

    /** The edges, and for each of their letters a line: a row of words, or none. */
    private static final class Poem {
        private int lines = 1;
        private final int[] firstEdge = new int[MAX_LINES];
        private final int[] lastEdge = new int[MAX_LINES];
        private final int[] lengths = new int[MAX_LINES];
        /** The words of all lines; each line has room for a word on each beat. */
        private final int[] rows = new int[MAX_LINES * MAX_BEATS];

        Poem() {
            firstEdge[0] = 'a';
            lastEdge[0] = 'a';
        }

        int size() {
            return lines;
        }

        boolean has(int line) {
            return line >= 0 && line < lines;
        }

        int firstLetterOf(int line) {
            return has(line) ? firstEdge[line] : NO_CODE;
        }

        int lastLetterOf(int line) {
            return has(line) ? lastEdge[line] : NO_CODE;
        }

        int wordsIn(int line) {
            return has(line) ? lengths[line] : 0;
        }

        int wordIn(int line, int place) {
            if (place < 0 || place >= wordsIn(line)) {
                return NOT_FOUND;
            }
            return rows[line * MAX_BEATS + place];
        }

        boolean uses(int line, int word) {
            int count = wordsIn(line);
            for (int place = 0; place < count; place++) {
                if (rows[line * MAX_BEATS + place] == word) {
                    return true;
                }
            }
            return false;
        }

        int linesUsing(int word) {
            return linesUsingBesides(NOT_FOUND, word);
        }

        int linesUsingBesides(int leftOut, int word) {
            int using = 0;
            for (int line = 0; line < lines; line++) {
                if (line != leftOut && uses(line, word)) {
                    using++;
                }
            }
            return using;
        }

        int madeLines() {
            int made = 0;
            for (int line = 0; line < lines; line++) {
                if (wordsIn(line) > 0) {
                    made++;
                }
            }
            return made;
        }

        void putLine(int line, int[] row, int length) {
            if (!has(line) || length < 0 || length > MAX_BEATS || length > row.length) {
                return;
            }
            System.arraycopy(row, 0, rows, line * MAX_BEATS, length);
            lengths[line] = length;
        }

        void emptyLine(int line) {
            if (has(line)) {
                lengths[line] = 0;
            }
        }

        /** Returns how many lines become empty by this. */
        int emptyAllLines() {
            int made = madeLines();
            for (int line = 0; line < lines; line++) {
                emptyLine(line);
            }
            return made;
        }

        void changeEdges(Text text, int length) {
            if (length < 1 || length > MAX_LINES) {
                return;
            }
            lines = length;
            for (int line = 0; line < length; line++) {
                firstEdge[line] = text.codeAt(line);
                lastEdge[line] = text.codeAt(length + 1 + line);
            }
            emptyAllLines();
        }

        /** Empties the lines that use a word that is removed; returns how many there are. */
        int forgetWord(int word) {
            int emptied = 0;
            for (int line = 0; line < lines; line++) {
                if (uses(line, word)) {
                    emptyLine(line);
                    emptied++;
                }
            }
            // The words behind the removed one have moved up by one.
            for (int index = 0; index < rows.length; index++) {
                if (rows[index] > word) {
                    rows[index]--;
                }
            }
            return emptied;
        }

        void copyFrom(Poem other) {
            lines = other.lines;
            System.arraycopy(other.firstEdge, 0, firstEdge, 0, MAX_LINES);
            System.arraycopy(other.lastEdge, 0, lastEdge, 0, MAX_LINES);
            System.arraycopy(other.lengths, 0, lengths, 0, MAX_LINES);
            System.arraycopy(other.rows, 0, rows, 0, MAX_LINES * MAX_BEATS);
        }
    }

    /** What undo() and restore() bring back, and what is told of it. */
    private static final class State {
        private final WordStore words = new WordStore();
        private final Metre metre = new Metre();
        private final Poem poem = new Poem();

        void copyFrom(State other) {
            words.copyFrom(other.words);
            metre.copyFrom(other.metre);
            poem.copyFrom(other.poem);
        }

        /** On how many beats the word could begin. */
        int beatsFor(int word) {
            int fitting = 0;
            for (int beat = 0; beat < metre.beats; beat++) {
                if (metre.fits(words, word, beat)) {
                    fitting++;
                }
            }
            return fitting;
        }

        int bendsIn(int line) {
            int bends = 0;
            int beat = 0;
            for (int place = 0; place < poem.wordsIn(line); place++) {
                int word = poem.wordIn(line, place);
                bends += metre.bends(words, word, beat);
                beat += words.syllablesOf(word);
            }
            return bends;
        }

        int bendsInAll() {
            int bends = 0;
            for (int line = 0; line < poem.size(); line++) {
                bends += bendsIn(line);
            }
            return bends;
        }

        int lettersIn(int line) {
            int letters = 0;
            for (int place = 0; place < poem.wordsIn(line); place++) {
                letters += words.letterCountOf(poem.wordIn(line, place));
            }
            return letters;
        }

        int usedWords() {
            int used = 0;
            for (int word = 0; word < words.size(); word++) {
                if (poem.linesUsing(word) > 0) {
                    used++;
                }
            }
            return used;
        }

        int usedUpWords() {
            int usedUp = 0;
            for (int word = 0; word < words.size(); word++) {
                if (poem.linesUsing(word) == words.limitOf(word)) {
                    usedUp++;
                }
            }
            return usedUp;
        }

        int wordsWithBeats() {
            int fitting = 0;
            for (int word = 0; word < words.size(); word++) {
                if (beatsFor(word) > 0) {
                    fitting++;
                }
            }
            return fitting;
        }

        /** How long the line is when it is read, with its blanks and the "/" behind it. */
        private int lengthOf(int line) {
            // Behind each word there is one sign; an empty line has its "/" all the same.
            return lettersIn(line) + Math.max(poem.wordsIn(line), 1);
        }

        int poemLength() {
            int length = 0;
            for (int line = 0; line < poem.size(); line++) {
                length += lengthOf(line);
            }
            return length;
        }

        /** The code at an index of the poem when it is read; NO_CODE behind its end. */
        int codeAt(int index) {
            int rest = index;
            for (int line = 0; line < poem.size(); line++) {
                int length = lengthOf(line);
                if (rest < length) {
                    return codeIn(line, rest);
                }
                rest -= length;
            }
            return NO_CODE;
        }

        private int codeIn(int line, int index) {
            int rest = index;
            int count = poem.wordsIn(line);
            for (int place = 0; place < count; place++) {
                int word = poem.wordIn(line, place);
                int letters = words.letterCountOf(word);
                if (rest < letters) {
                    return words.letterOf(word, rest);
                }
                if (rest == letters && place + 1 < count) {
                    return ' ';
                }
                rest -= letters + 1;
            }
            return '/';
        }
    }

    /** The latest states, in a ring. */
    private static final class History {
        private final State[] states = new State[MAX_STATES];
        private int oldest;
        private int size;

        History() {
            for (int index = 0; index < MAX_STATES; index++) {
                states[index] = new State();
            }
        }

        int size() {
            return size;
        }

        private int slotOf(int age) {
            return (oldest + age) % MAX_STATES;
        }

        void record(State state) {
            // In a full history this slot is that of the oldest state, which is dropped.
            states[slotOf(size)].copyFrom(state);
            if (size < MAX_STATES) {
                size++;
            } else {
                oldest = slotOf(1);
            }
        }

        void takeLatest(State into) {
            if (size > 0) {
                size--;
                into.copyFrom(states[slotOf(size)]);
            }
        }
    }

    /** The two slots for snapshots. */
    private static final class Snapshots {
        private final State[] states = new State[SLOTS];
        private final boolean[] taken = new boolean[SLOTS];

        Snapshots() {
            for (int slot = 0; slot < SLOTS; slot++) {
                states[slot] = new State();
            }
        }

        boolean has(int slot) {
            return slot >= 0 && slot < SLOTS;
        }

        boolean isTaken(int slot) {
            return has(slot) && taken[slot];
        }

        void take(int slot, State state) {
            if (has(slot)) {
                states[slot].copyFrom(state);
                taken[slot] = true;
            }
        }

        void copyTo(int slot, State state) {
            if (isTaken(slot)) {
                state.copyFrom(states[slot]);
            }
        }
    }

    /**
     * Finds the first row of words for a line. From the last beat back to the first one it keeps
     * the lowest cost of a row from that beat to the end, and the lowest word that such a row can
     * begin with; read from the first beat on, these words are the row that comes first.
     */
    private static final class LineSearch {
        /** A bend outweighs all words that a row can have. */
        private static final int COST_OF_BEND = MAX_BEATS + 1;
        private static final int COST_OF_WORD = 1;
        /** Higher than the cost of any row. */
        private static final int NO_ROW = 1000000;

        private final boolean[] usable = new boolean[MAX_WORDS];
        private final int[] costs = new int[MAX_BEATS + 1];
        private final int[] choices = new int[MAX_BEATS];
        private final int[] ways = new int[MAX_BEATS + 1];
        private final int[] row = new int[MAX_BEATS];
        private int length;
        private int firstLetter;
        private int lastLetter;
        private boolean firstRight;
        private boolean lastRight;

        int size() {
            return length;
        }

        int wordIn(int place) {
            return place >= 0 && place < length && place < MAX_BEATS ? row[place] : NOT_FOUND;
        }

        /** Finds the first row whose letters are right or wrong as told; false if there is none. */
        boolean seek(State state, int line, boolean wantFirstRight, boolean wantLastRight) {
            prepare(state, line, wantFirstRight, wantLastRight);
            int beats = state.metre.beats;
            costs[beats] = 0;
            for (int beat = beats - 1; beat >= 0; beat--) {
                chooseAt(state, beat);
            }
            readRow(state);
            return length > 0;
        }

        /** How many rows there are for the line; MAX_ROWS_TOLD if there are more. */
        int countRows(State state, int line) {
            prepare(state, line, true, true);
            int beats = state.metre.beats;
            ways[beats] = 1;
            for (int beat = beats - 1; beat >= 0; beat--) {
                int sum = 0;
                for (int word = 0; word < state.words.size(); word++) {
                    if (canStand(state, word, beat)) {
                        sum += ways[beat + state.words.syllablesOf(word)];
                    }
                }
                ways[beat] = Math.min(sum, MAX_ROWS_TOLD);
            }
            return ways[0];
        }

        void putInto(Poem poem, int line) {
            poem.putLine(line, row, length);
        }

        /**
         * Whether the row comes before that of another search, which asked for a first word that
         * begins right where this one asked for a wrong one: so the first words differ.
         */
        boolean comesBefore(LineSearch other) {
            if (costs[0] != other.costs[0]) {
                return costs[0] < other.costs[0];
            }
            return wordIn(0) < other.wordIn(0);
        }

        private void prepare(State state, int line, boolean wantFirst, boolean wantLast) {
            firstLetter = state.poem.firstLetterOf(line);
            lastLetter = state.poem.lastLetterOf(line);
            firstRight = wantFirst;
            lastRight = wantLast;
            for (int word = 0; word < state.words.size(); word++) {
                int used = state.poem.linesUsingBesides(line, word);
                usable[word] = used < state.words.limitOf(word);
            }
        }

        private boolean canStand(State state, int word, int beat) {
            if (!usable[word] || !state.metre.fits(state.words, word, beat)) {
                return false;
            }
            if (beat == 0 && (state.words.firstLetterOf(word) == firstLetter) != firstRight) {
                return false;
            }
            boolean last = beat + state.words.syllablesOf(word) == state.metre.beats;
            return !last || (state.words.lastLetterOf(word) == lastLetter) == lastRight;
        }

        private void chooseAt(State state, int beat) {
            costs[beat] = NO_ROW;
            for (int word = 0; word < state.words.size(); word++) {
                if (canStand(state, word, beat)) {
                    int cost = costFrom(state, word, beat);
                    if (cost < costs[beat]) {
                        costs[beat] = cost;
                        choices[beat] = word;
                    }
                }
            }
        }

        private int costFrom(State state, int word, int beat) {
            int rest = costs[beat + state.words.syllablesOf(word)];
            if (rest == NO_ROW) {
                return NO_ROW;
            }
            return rest + COST_OF_WORD + COST_OF_BEND * state.metre.bends(state.words, word, beat);
        }

        private void readRow(State state) {
            length = 0;
            if (costs[0] == NO_ROW) {
                return;
            }
            int beat = 0;
            while (beat < state.metre.beats && length < MAX_BEATS) {
                row[length] = choices[beat];
                beat += state.words.syllablesOf(choices[beat]);
                length++;
            }
        }
    }
}

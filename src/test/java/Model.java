import java.util.ArrayDeque;
import java.util.ArrayList;
import java.util.Comparator;
import java.util.Deque;
import java.util.List;
import java.util.regex.Matcher;
import java.util.regex.Pattern;

/**
 * The document once more, in its plainest form: states that are never changed, and searches that
 * list all rows of words. It is slow, and only fit for few words on few beats.
 */
final class Model {
    private static final Pattern WORD =
            Pattern.compile("'?[a-z]+(?:-'?[a-z]+){0,3}(?:\\*([1-9]))?");
    private static final Pattern EDGES = Pattern.compile("([a-z]{1,8})/([a-z]{1,8})");

    /** A word; its stresses are a text with "'" for a strong syllable and "." for a weak one. */
    private record Word(String letters, String stresses, int limit) {
    }

    private record State(List<Word> words, String metre, String first, String last,
            List<List<Integer>> lines) {
        State withWords(List<Word> newWords) {
            return new State(newWords, metre, first, last, lines);
        }

        State withLines(List<List<Integer>> newLines) {
            return new State(words, metre, first, last, newLines);
        }

        State withLine(int line, List<Integer> row) {
            List<List<Integer>> newLines = new ArrayList<>(lines);
            newLines.set(line, row);
            return withLines(newLines);
        }
    }

    private State state =
            new State(List.of(), ".'.'", "a", "a", List.of(List.of()));
    private String text = "";
    private final Deque<State> history = new ArrayDeque<>();
    private final State[] slots = new State[2];

    private void act(State next) {
        history.addLast(state);
        if (history.size() > 5) {
            history.removeFirst();
        }
        state = next;
    }

    private static List<List<Integer>> emptyLines(int howMany) {
        List<List<Integer>> lines = new ArrayList<>();
        for (int line = 0; line < howMany; line++) {
            lines.add(List.of());
        }
        return lines;
    }

    private boolean isWord(int word) {
        return word >= 0 && word < state.words.size();
    }

    private boolean isLine(int line) {
        return line >= 0 && line < state.lines.size();
    }

    private int made() {
        return (int) state.lines.stream().filter(row -> !row.isEmpty()).count();
    }

    private int use(int word) {
        return (int) state.lines.stream().filter(row -> row.contains(word)).count();
    }

    int type(char character) {
        if (text.length() == 40) {
            return -3;
        }
        text += character;
        return text.length();
    }

    int clearText() {
        int length = text.length();
        text = "";
        return length;
    }

    private static boolean canGoOn(String start) {
        Matcher matcher = WORD.matcher(start);
        boolean whole = matcher.matches();
        return (whole || matcher.hitEnd()) && start.replaceAll("[^a-z]", "").length() <= 8;
    }

    private int fault() {
        for (int length = 1; length <= text.length(); length++) {
            if (!canGoOn(text.substring(0, length))) {
                return length - 1;
            }
        }
        return WORD.matcher(text).matches() ? -1 : text.length();
    }

    int addWord() {
        if (fault() >= 0) {
            return -100 - fault();
        }
        String letters = text.replaceAll("[^a-z]", "");
        if (state.words.stream().anyMatch(word -> word.letters.equals(letters))) {
            return -4;
        }
        if (state.words.size() == 40) {
            return -3;
        }
        StringBuilder stresses = new StringBuilder();
        for (String syllable : text.split("-")) {
            stresses.append(syllable.startsWith("'") ? '\'' : '.');
        }
        int star = text.indexOf('*');
        int limit = star < 0 ? 1 : text.charAt(star + 1) - '0';
        List<Word> words = new ArrayList<>(state.words);
        words.add(new Word(letters, stresses.toString(), limit));
        act(state.withWords(words));
        return words.size() - 1;
    }

    int removeWord(int word) {
        if (!isWord(word)) {
            return -1;
        }
        int emptied = use(word);
        List<List<Integer>> lines = new ArrayList<>();
        for (List<Integer> row : state.lines) {
            lines.add(row.contains(word) ? List.of()
                    : row.stream().map(other -> other > word ? other - 1 : other).toList());
        }
        List<Word> words = new ArrayList<>(state.words);
        words.remove(word);
        act(state.withWords(words).withLines(lines));
        return emptied;
    }

    int setLimit(int word, int limit) {
        if (!isWord(word)) {
            return -1;
        }
        if (limit < 1 || limit > 9) {
            return -2;
        }
        if (use(word) > limit) {
            return -4;
        }
        Word old = state.words.get(word);
        if (old.limit == limit) {
            return -5;
        }
        List<Word> words = new ArrayList<>(state.words);
        words.set(word, new Word(old.letters, old.stresses, limit));
        act(state.withWords(words));
        return old.limit;
    }

    int setMetre(int beats, int strong) {
        if (beats < 2 || beats > 12 || strong < 0 || strong >= Math.pow(2, beats)) {
            return -2;
        }
        StringBuilder metre = new StringBuilder();
        for (int beat = 0; beat < beats; beat++) {
            metre.append(strong / (int) Math.pow(2, beat) % 2 == 1 ? '\'' : '.');
        }
        int emptied = made();
        act(new State(state.words, metre.toString(), state.first, state.last,
                emptyLines(state.lines.size())));
        return emptied;
    }

    int setEdges() {
        Matcher matcher = EDGES.matcher(text);
        if (!matcher.matches() || matcher.group(1).length() != matcher.group(2).length()) {
            return -4;
        }
        int lines = matcher.group(1).length();
        act(new State(state.words, state.metre, matcher.group(1), matcher.group(2),
                emptyLines(lines)));
        return lines;
    }

    /** All rows that have the metre and whose words are left for the line. */
    private List<List<Integer>> rowsFor(int line) {
        State others = state.withLine(line, List.of());
        List<Integer> left = new ArrayList<>();
        for (int word = 0; word < state.words.size(); word++) {
            int asked = word;
            long used = others.lines.stream().filter(row -> row.contains(asked)).count();
            if (used < state.words.get(word).limit) {
                left.add(word);
            }
        }
        List<List<Integer>> rows = new ArrayList<>();
        goOn(new ArrayList<>(), state.metre, left, rows);
        return rows;
    }

    private void goOn(List<Integer> start, String beats, List<Integer> left,
            List<List<Integer>> rows) {
        if (beats.isEmpty()) {
            rows.add(List.copyOf(start));
            return;
        }
        for (int word : left) {
            String stresses = state.words.get(word).stresses;
            if (beats.startsWith(stresses) || stresses.length() == 1) {
                start.add(word);
                goOn(start, beats.substring(stresses.length()), left, rows);
                start.remove(start.size() - 1);
            }
        }
    }

    private int bends(List<Integer> row) {
        StringBuilder stresses = new StringBuilder();
        row.forEach(word -> stresses.append(state.words.get(word).stresses));
        int bends = 0;
        for (int beat = 0; beat < stresses.length(); beat++) {
            bends += stresses.charAt(beat) == state.metre.charAt(beat) ? 0 : 1;
        }
        return bends;
    }

    private boolean beginsRight(List<Integer> row, int line) {
        return state.words.get(row.get(0)).letters.charAt(0) == state.first.charAt(line);
    }

    private boolean endsRight(List<Integer> row, int line) {
        String letters = state.words.get(row.get(row.size() - 1)).letters;
        return letters.endsWith(state.last.substring(line, line + 1));
    }

    private static int byNumbers(List<Integer> one, List<Integer> other) {
        for (int place = 0; place < one.size(); place++) {
            if (!one.get(place).equals(other.get(place))) {
                return one.get(place) - other.get(place);
            }
        }
        return 0;
    }

    private List<Integer> first(List<List<Integer>> rows) {
        Comparator<List<Integer>> order = Comparator.comparing(this::bends);
        return rows.stream().min(order.thenComparing(List::size).thenComparing(Model::byNumbers))
                .orElse(List.of());
    }

    private List<List<Integer>> goodRows(int line) {
        return rowsFor(line).stream()
                .filter(row -> beginsRight(row, line) && endsRight(row, line)).toList();
    }

    int makeLine(int line) {
        if (!isLine(line)) {
            return -1;
        }
        List<Integer> row = first(goodRows(line));
        if (row.isEmpty()) {
            return -5;
        }
        act(state.withLine(line, row));
        return row.size();
    }

    int make() {
        State before = state;
        for (int line = 0; line < state.lines.size(); line++) {
            if (state.lines.get(line).isEmpty()) {
                state = state.withLine(line, first(goodRows(line)));
            }
        }
        State after = state;
        int madeThen = made();
        state = before;
        if (madeThen == made()) {
            return -5;
        }
        int madeByThis = madeThen - made();
        act(after);
        return madeByThis;
    }

    int clearLine(int line) {
        if (!isLine(line)) {
            return -1;
        }
        int words = state.lines.get(line).size();
        if (words == 0) {
            return -5;
        }
        act(state.withLine(line, List.of()));
        return words;
    }

    int undo() {
        if (history.isEmpty()) {
            return -5;
        }
        state = history.removeLast();
        return history.size();
    }

    int keep(int slot) {
        if (slot != 0 && slot != 1) {
            return -1;
        }
        slots[slot] = state;
        return state.words.size();
    }

    int restore(int slot) {
        if (slot != 0 && slot != 1) {
            return -1;
        }
        if (slots[slot] == null) {
            return -5;
        }
        act(slots[slot]);
        return state.words.size();
    }

    private int beatsFor(Word word) {
        int fitting = 0;
        for (int beat = 0; beat < state.metre.length(); beat++) {
            boolean stands = state.metre.startsWith(word.stresses, beat);
            fitting += stands || word.stresses.length() == 1 ? 1 : 0;
        }
        return fitting;
    }

    int word(int word, int what) {
        if (!isWord(word)) {
            return -1;
        }
        Word told = state.words.get(word);
        int strong = 0;
        for (int syllable = 0; syllable < told.stresses.length(); syllable++) {
            strong += told.stresses.charAt(syllable) == '\'' ? (int) Math.pow(2, syllable) : 0;
        }
        int[] answers = {told.letters.length(), told.stresses.length(), strong, told.limit,
            use(word), told.letters.charAt(0), told.letters.charAt(told.letters.length() - 1),
            beatsFor(told)};
        return what >= 0 && what < answers.length ? answers[what] : -2;
    }

    int letterAt(int word, int index) {
        if (!isWord(word)) {
            return -1;
        }
        String letters = state.words.get(word).letters;
        return index < 0 ? -2 : index < letters.length() ? letters.charAt(index) : -5;
    }

    private String lettersOf(List<Integer> row, String between) {
        return String.join(between, row.stream().map(word -> state.words.get(word).letters).toList());
    }

    int line(int line, int what) {
        if (!isLine(line)) {
            return -1;
        }
        List<Integer> row = state.lines.get(line);
        int rows = what == 5 ? Math.min(1000, goodRows(line).size()) : 0;
        int[] answers = {row.size(), bends(row), lettersOf(row, "").length(),
            state.first.charAt(line), state.last.charAt(line), rows};
        return what >= 0 && what < answers.length ? answers[what] : -2;
    }

    private static int placeOf(List<Integer> row, int place) {
        return place < 0 ? -2 : place < row.size() ? row.get(place) : -5;
    }

    int wordAt(int line, int place) {
        return isLine(line) ? placeOf(state.lines.get(line), place) : -1;
    }

    int nearMiss(int line, int place) {
        if (!isLine(line)) {
            return -1;
        }
        List<List<Integer>> misses = rowsFor(line).stream()
                .filter(row -> beginsRight(row, line) != endsRight(row, line)).toList();
        return placeOf(first(misses), place);
    }

    int find() {
        for (int word = 0; word < state.words.size(); word++) {
            if (state.words.get(word).letters.equals(text)) {
                return word;
            }
        }
        return -5;
    }

    String poem() {
        StringBuilder poem = new StringBuilder();
        state.lines.forEach(row -> poem.append(lettersOf(row, " ")).append('/'));
        return poem.toString();
    }

    int poemAt(int index) {
        return index < 0 ? -2 : index < poem().length() ? poem().charAt(index) : -5;
    }

    int count(int what) {
        int used = 0;
        int usedUp = 0;
        int fitting = 0;
        for (int word = 0; word < state.words.size(); word++) {
            used += use(word) > 0 ? 1 : 0;
            usedUp += use(word) == state.words.get(word).limit ? 1 : 0;
            fitting += beatsFor(state.words.get(word)) > 0 ? 1 : 0;
        }
        int strong = 0;
        for (int beat = 0; beat < state.metre.length(); beat++) {
            strong += state.metre.charAt(beat) == '\'' ? (int) Math.pow(2, beat) : 0;
        }
        int[] answers = {state.words.size(), state.lines.size(), made(),
            state.lines.stream().mapToInt(this::bends).sum(), state.metre.length(), strong, used,
            usedUp, fitting, poem().length(), history.size(), text.length()};
        return what >= 0 && what < answers.length ? answers[what] : -2;
    }
}

import java.math.BigInteger;
import java.util.ArrayList;
import java.util.List;

/**
 * The search for a line in another way than in the class, fit for many words on many beats: for each
 * number of bends, from 0 on, and for each number of words, from 1 on, it tries the words by their
 * numbers, and turns back where it has found before that there is no way on.
 */
final class RowSearch {
    /** A word of the store; its stresses are a text with "'" for a strong syllable, "." for a weak one. */
    record Word(String letters, String stresses, int limit) {
    }

    /** Which rows are sought: a line with both letters right, or a near miss with one wrong. */
    enum Kind { LINE, NEAR_MISS }

    private final List<Word> words;
    private final List<Integer> left;
    private final String metre;
    private final char first;
    private final char last;
    private final Kind kind;
    private boolean[][][][] hopeless;

    RowSearch(List<Word> words, List<Integer> left, String metre, char first, char last, Kind kind) {
        this.words = words;
        this.left = left;
        this.metre = metre;
        this.first = first;
        this.last = last;
        this.kind = kind;
    }

    /** The numbers of the words of the first row; none if there is no row. */
    List<Integer> firstRow() {
        int beats = metre.length();
        hopeless = new boolean[beats + 1][beats + 1][beats + 1][2];
        for (int bends = 0; bends <= beats; bends++) {
            for (int count = 1; count <= beats; count++) {
                List<Integer> row = new ArrayList<>();
                if (goOn(row, 0, bends, count, false)) {
                    return row;
                }
            }
        }
        return List.of();
    }

    BigInteger rows() {
        return rowsFrom(0, false, new BigInteger[metre.length() + 1][2]);
    }

    private boolean stands(Word word, int beat) {
        boolean within = beat + word.stresses.length() <= metre.length();
        return within && (word.stresses.length() == 1 || metre.startsWith(word.stresses, beat));
    }

    private boolean beginsRight(Word word) {
        return word.letters.charAt(0) == first;
    }

    private boolean mayBegin(Word word) {
        return kind == Kind.NEAR_MISS || beginsRight(word);
    }

    private boolean mayEnd(Word word, boolean begunRight) {
        boolean endsRight = word.letters.charAt(word.letters.length() - 1) == last;
        return kind == Kind.NEAR_MISS ? begunRight != endsRight : endsRight;
    }

    private boolean fits(Word word, int beat, boolean begunRight) {
        if (!stands(word, beat) || beat == 0 && !mayBegin(word)) {
            return false;
        }
        boolean isLast = beat + word.stresses.length() == metre.length();
        return !isLast || mayEnd(word, beat == 0 ? beginsRight(word) : begunRight);
    }

    private boolean goOn(List<Integer> row, int beat, int bends, int count, boolean begunRight) {
        if (beat == metre.length()) {
            return bends == 0 && count == 0;
        }
        if (bends < 0 || count == 0 || hopeless[beat][bends][count][begunRight ? 1 : 0]) {
            return false;
        }
        for (int number : left) {
            Word word = words.get(number);
            if (fits(word, beat, begunRight)) {
                row.add(number);
                int bend = metre.startsWith(word.stresses, beat) ? 0 : 1;
                boolean right = beat == 0 ? beginsRight(word) : begunRight;
                if (goOn(row, beat + word.stresses.length(), bends - bend, count - 1, right)) {
                    return true;
                }
                row.remove(row.size() - 1);
            }
        }
        hopeless[beat][bends][count][begunRight ? 1 : 0] = true;
        return false;
    }

    private BigInteger rowsFrom(int beat, boolean begunRight, BigInteger[][] known) {
        if (beat == metre.length()) {
            return BigInteger.ONE;
        }
        int index = begunRight ? 1 : 0;
        if (known[beat][index] == null) {
            BigInteger sum = BigInteger.ZERO;
            for (int number : left) {
                Word word = words.get(number);
                if (fits(word, beat, begunRight)) {
                    boolean right = beat == 0 ? beginsRight(word) : begunRight;
                    sum = sum.add(rowsFrom(beat + word.stresses.length(), right, known));
                }
            }
            known[beat][index] = sum;
        }
        return known[beat][index];
    }
}

import java.util.ArrayList;
import java.util.List;

/** Whole numbers out of a range: just outside it, far out, and the least and the greatest int. */
final class Bounds {
    private static final int[] FAR = {Integer.MIN_VALUE, Integer.MIN_VALUE + 1, -65536, -256, -100,
        -5, -1, 0, 1, 31, 32, 33, 40, 41, 64, 100, 255, 256, 512, 65535, 65536, 1 << 30,
        Integer.MAX_VALUE - 1, Integer.MAX_VALUE};

    private Bounds() {
    }

    static List<Integer> outside(int lowest, int highest) {
        List<Integer> outside = new ArrayList<>();
        outside.add(lowest - 1);
        outside.add(highest + 1);
        for (int number : FAR) {
            if ((number < lowest || number > highest) && !outside.contains(number)) {
                outside.add(number);
            }
        }
        return outside;
    }

    /** Numbers below 0: just below it, far below, and the least int. */
    static List<Integer> negative() {
        List<Integer> negative = new ArrayList<>();
        for (int number : FAR) {
            if (number < 0) {
                negative.add(number);
            }
        }
        return negative;
    }

    /** Numbers from a lowest one on: that, the next one, far above it, and the greatest int. */
    static List<Integer> from(int lowest) {
        List<Integer> from = new ArrayList<>(List.of(lowest, lowest + 1));
        for (int number : FAR) {
            if (number > lowest + 1) {
                from.add(number);
            }
        }
        return from;
    }
}

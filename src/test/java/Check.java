import java.util.Objects;

/** Compares answers with those that are due, and ends a test with exit code 1 if one was wrong. */
final class Check {
    private int wrong = 0;
    private int checked = 0;

    void due(String call, Object want, Object got) {
        checked++;
        if (!Objects.equals(want, got)) {
            wrong++;
            System.out.println(call + " answered " + got + ", due is " + want);
        }
    }

    void finish() {
        System.out.println(checked + " answers checked, " + wrong + " wrong");
        if (wrong != 0 || checked == 0) {
            System.exit(1);
        }
    }
}

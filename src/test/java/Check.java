import java.util.Objects;

/** Counts and prints the answers that are not as due; each test ends with finish(). */
final class Check {
    /** Arguments just outside and far outside every range of indexes, accounts and selectors. */
    static final int[] WRONG_INDEXES = {-1, -2, 8, 9, 100, Integer.MAX_VALUE, Integer.MIN_VALUE};

    private static int wrong = 0;
    private static String title = "";

    private Check() { }

    static void title(String text) {
        title = text;
    }

    static void due(String what, Object want, Object got) {
        if (!Objects.equals(want, got)) {
            wrong++;
            System.out.println(title + ": " + what + " answered " + got + ", due is " + want);
        }
    }

    static void number(String what, long want, long got) {
        due(what, want, got);
    }

    static void yes(String what, boolean got) {
        due(what, true, got);
    }

    /** A refusal must leave everything as it was; before is the State of the house ahead of the call. */
    static void refused(String what, boolean got, String before, ClearingHouse house) {
        due(what, false, got);
        due("the state after the refused " + what, before, State.of(house));
    }

    static void finish() {
        System.out.println(wrong == 0 ? "all answers are as due" : wrong + " answers are not as due");
        if (wrong != 0) {
            System.exit(1);
        }
    }
}

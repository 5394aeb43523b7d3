import java.util.Map;
import java.util.Objects;
import java.util.TreeMap;
import java.util.function.Predicate;
import java.util.function.Supplier;

/** Counts and prints the answers that are not as due; each test ends with finish(). */
final class Check {
    /** Numbers that are never an index, an account or a selector; some would be one if their low bits alone counted. */
    static final int[] WRONG_INDEXES = {-1, -2, -8, 8, 9, 16, 100, 256, 65536, 1 << 30, Integer.MAX_VALUE,
        Integer.MIN_VALUE, Integer.MIN_VALUE + 1};

    private static int wrong = 0;
    private static String heading = "";

    private Check() { }

    /** The sentence of the document that the checks after it are about, in the document's own words. */
    static void sentence(String words) {
        heading = words;
    }

    /** For what is not about one sentence. */
    static void title(String text) {
        heading = text;
    }

    static void due(String what, Object want, Object got) {
        if (!Objects.equals(want, got)) {
            wrong++;
            System.out.println("[" + heading + "] " + what + " answered " + got + ", due is " + want);
        }
    }

    static void number(String what, long want, long got) {
        due(what, want, got);
    }

    static void yes(String what, boolean got) {
        due(what, true, got);
    }

    /** Pairs of a key of State and the value that is due there now. */
    static void reads(ClearingHouse house, Object... pairs) {
        Map<String, Long> got = State.of(house);
        for (int n = 0; n < pairs.length; n += 2) {
            due(pairs[n].toString(), ((Number) pairs[n + 1]).longValue(), got.get(pairs[n].toString()));
        }
    }

    /** The call must answer true, bring these readings (pairs as in reads) and leave all others as they were. */
    static void does(String what, ClearingHouse house, Predicate<ClearingHouse> call, Object... pairs) {
        Map<String, Long> want = new TreeMap<>(State.of(house));
        for (int n = 0; n < pairs.length; n += 2) {
            yes("the key " + pairs[n] + " stands in State", want.containsKey(pairs[n].toString()));
            want.put(pairs[n].toString(), ((Number) pairs[n + 1]).longValue());
        }
        yes(what, call.test(house));
        same(what, want, State.of(house));
    }

    /**
     * The call must answer false and change nothing at all. Bids cannot be read, so what comes after the call is
     * compared too, with a second house of the same scene on which the call is not made.
     */
    static void refuses(String what, Supplier<ClearingHouse> scene, Predicate<ClearingHouse> call) {
        ClearingHouse house = scene.get();
        ClearingHouse twin = scene.get();
        due(what, false, call.test(house));
        same("the refused " + what, State.of(twin), State.of(house));
        for (Predicate<ClearingHouse> next : Scene.future()) {
            due("a call some time after the refused " + what, next.test(twin), next.test(house));
            same("some time after the refused " + what, State.of(twin), State.of(house));
        }
    }

    private static void same(String what, Map<String, Long> want, Map<String, Long> got) {
        for (String key : want.keySet()) {
            due(what + ": " + key, want.get(key), got.get(key));
        }
    }

    static void finish() {
        System.out.println(wrong == 0 ? "all answers are as due" : wrong + " answers are not as due");
        if (wrong != 0) {
            System.exit(1);
        }
    }
}

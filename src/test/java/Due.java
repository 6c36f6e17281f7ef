import java.util.Map;
import java.util.TreeSet;

/** Counts the answers that are not as due; every test ends with end(). */
final class Due {
    private static int asked = 0;
    private static int wrong = 0;

    private Due() {
    }

    static void same(String what, long got, long want) {
        asked++;
        if (got != want) {
            wrong++;
            System.out.println(what + ": answered " + got + ", due is " + want);
        }
    }

    static void yes(String what, boolean got) {
        same(what, got ? 1 : 0, 1);
    }

    static void no(String what, boolean got) {
        same(what, got ? 1 : 0, 0);
    }

    /** Exactly the named readings may differ between the two, and each of them must. */
    static void changed(String what, Map<String, Integer> before, Map<String, Integer> after, String... keys) {
        TreeSet<String> got = new TreeSet<>();
        for (String key : after.keySet()) {
            if (!after.get(key).equals(before.get(key))) {
                got.add(key);
            }
        }
        TreeSet<String> want = new TreeSet<>(java.util.List.of(keys));
        asked++;
        if (!got.equals(want)) {
            wrong++;
            System.out.println(what + ": changed " + got + ", due is " + want);
        }
    }

    static void end() {
        System.out.println(asked + " answers looked at, " + wrong + " not as due");
        if (wrong != 0 || asked == 0) {
            System.exit(1);
        }
    }
}

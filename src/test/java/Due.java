import java.util.List;
import java.util.Map;
import java.util.TreeSet;

/** Counts the answers that are not as due; every test ends with end(). */
final class Due {
    private static final int MOST_LINES = 20;

    private static int asked = 0;
    private static int wrong = 0;
    private static int sentences = 0;
    private static int wrongBeforeSentence = 0;

    private Due() {
    }

    /** Runs the test of one sentence of the document, and names the sentence if the test finds it broken. */
    static void sentence(String words, Runnable test) {
        int askedBefore = asked;
        sentences++;
        wrongBeforeSentence = wrong;
        try {
            test.run();
        } catch (RuntimeException thrown) {
            tell("threw " + thrown);
        }
        if (asked == askedBefore) {
            tell("the test looks at nothing");
        }
        if (wrong != wrongBeforeSentence) {
            System.out.println("NOT HELD: " + words);
        }
    }

    private static void tell(String line) {
        wrong++;
        if (wrong - wrongBeforeSentence <= MOST_LINES) {
            System.out.println(line);
        }
    }

    static void same(String what, long got, long want) {
        asked++;
        if (got != want) {
            tell(what + ": answered " + got + ", due is " + want);
        }
    }

    static void yes(String what, boolean got) {
        same(what, got ? 1 : 0, 1);
    }

    static void no(String what, boolean got) {
        same(what, got ? 1 : 0, 0);
    }

    /** Exactly the named readings may differ between the two, and each of them must. */
    static void changed(String what, Map<String, Integer> before, Map<String, Integer> after, String... keys) {
        TreeSet<String> got = new TreeSet<>();
        for (String key : after.keySet()) {
            if (!after.get(key).equals(before.get(key))) {
                got.add(key);
            }
        }
        TreeSet<String> want = new TreeSet<>(List.of(keys));
        asked++;
        if (!got.equals(want)) {
            tell(what + ": changed " + got + ", due is " + want);
        }
    }

    static void end() {
        String of = sentences == 0 ? "" : " for " + sentences + " sentences";
        System.out.println(asked + " answers looked at" + of + ", " + wrong + " not as due");
        if (wrong != 0 || asked == 0) {
            System.exit(1);
        }
    }
}

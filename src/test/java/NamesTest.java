import java.util.LinkedHashMap;
import java.util.Map;
import java.util.function.IntUnaryOperator;

/** What it is, the names: which ints are names, wherever a name is given, and which name lies in which subtree. */
public final class NamesTest {
    private static final int PERMITTED = CertPathCheck.PERMITTED;
    private static final int EXCLUDED = CertPathCheck.EXCLUDED;

    public static void main(String[] args) {
        Due.sentence("A name is an int in 0..65535", NamesTest::ends);
        Due.sentence("groups 0..len-1 hold labels 1..15 and every group from len on is 0", NamesTest::everyName);
        Due.sentence("len (0..4) is the name's length.", NamesTest::lengths);
        Due.sentence("any negative int", () -> nowhereTaken(Calls.NEGATIVE));
        Due.sentence("any int above 65535", () -> nowhereTaken(Calls.ABOVE_NAMES));
        Due.sentence("0x0010, whose group 0 is 0 while group 1 is not", () -> nowhereTaken(Calls.ZERO_BEFORE_LABEL));
        Due.sentence("0 is the empty name.", NamesTest::emptyName);
        Due.sentence("when len(S) <= len(N)", NamesTest::shorterNames);
        Due.sentence("groups 0..len(S)-1 of N equal those of S", NamesTest::everyGroupOfTheSubtree);
        Due.sentence("A name N lies in subtree S", NamesTest::everyPairOfFewLabels);
        Due.sentence("So every name lies in subtree 0.", NamesTest::everyNameInTheEmptySubtree);
        Due.end();
    }

    /** Per place where a name is given: gives it there, and answers what is read back, or -1 if it is refused. */
    private static Map<String, IntUnaryOperator> places() {
        CertPathCheck x = new CertPathCheck(2);
        Map<String, IntUnaryOperator> places = new LinkedHashMap<>();
        places.put("anchor", name -> x.setAnchor(name) ? x.getField(-1, CertPathCheck.G_ANCHOR) : -1);
        places.put("issuer", name -> {
            int at = x.addCert(name, 1, 0, 0);
            return at < 0 ? -1 : readAndRemove(x, at, CertPathCheck.F_ISSUER);
        });
        places.put("subject", name -> {
            int at = x.addCert(1, name, 0, 0);
            return at < 0 ? -1 : readAndRemove(x, at, CertPathCheck.F_SUBJECT);
        });
        places.put("permitted", name -> putSubtree(x, PERMITTED, name));
        places.put("excluded", name -> putSubtree(x, EXCLUDED, name));
        return places;
    }

    private static int readAndRemove(CertPathCheck x, int at, int field) {
        int held = x.getField(at, field);
        x.removeLast();
        return held;
    }

    private static int putSubtree(CertPathCheck x, int kind, int name) {
        int at = x.addCert(1, 1, 0, 0);
        int held = x.addSubtree(at, kind, name) ? x.getSubtree(at, kind, 0) : -1;
        x.removeLast();
        return held;
    }

    private static void nowhereTaken(int... values) {
        places().forEach((place, put) -> {
            for (int value : values) {
                Due.same(place + " " + value, put.applyAsInt(value), -1);
            }
        });
    }

    private static void everywhereTaken(int... values) {
        places().forEach((place, put) -> {
            for (int value : values) {
                Due.same(place + " " + value, put.applyAsInt(value), value);
            }
        });
    }

    private static void ends() {
        everywhereTaken(0, 1, 65535);
        nowhereTaken(-1, 65536);
    }

    /** The words of the document, read anew: labels up to the length, zeros from there on. */
    private static boolean isName(int value) {
        String groupsFromZero = new StringBuilder(String.format("%04x", value)).reverse().toString();
        return groupsFromZero.matches("[1-9a-f]*0*");
    }

    private static void everyName() {
        places().forEach((place, put) -> {
            int names = 0;
            for (int value = 0; value <= 65535; value++) {
                Due.same(place + " " + value, put.applyAsInt(value), isName(value) ? value : -1);
                names += isName(value) ? 1 : 0;
            }
            Due.same("count of names", names, 1 + 15 + 15 * 15 + 15 * 15 * 15 + 15 * 15 * 15 * 15);
        });
    }

    private static void lengths() {
        everywhereTaken(0, 0x1, 0x11, 0x111, 0x1111, 0xF, 0xFF, 0xFFF, 0xFFFF);
        nowhereTaken(0x11111, 0xFFFFF, 0x111111, 0x11111111, 0x10000);
    }

    private static void emptyName() {
        everywhereTaken(0);
        CertPathCheck x = new CertPathCheck(2);
        x.addCert(0, 0, 0, 100);
        Paths.passes("the empty name as anchor, issuer and subject", x, 0, 0);
    }

    /** Whether subject lies in subtree: validate tells it, by a permitted and by an excluded subtree. */
    private static boolean liesIn(int subject, int subtree) {
        boolean permitted = status(PERMITTED, subject, subtree) == CertPathCheck.OK;
        boolean excluded = status(EXCLUDED, subject, subtree) == CertPathCheck.ERR_NAME;
        Due.yes(subject + " in " + subtree + ", both kinds alike", permitted == excluded);
        return permitted;
    }

    private static int status(int kind, int subject, int subtree) {
        CertPathCheck x = new CertPathCheck(2);
        x.addCert(0, 1, 0, 100);
        x.setBasic(0, CertPathCheck.BASIC_CA, -1);
        x.addSubtree(0, kind, subtree);
        x.addCert(1, subject, 0, 100);
        return x.validate(Paths.TIME);
    }

    private static void shorterNames() {
        int[] heads = {0, 0x4, 0x34, 0x234, 0x1234};
        for (int subject = 0; subject <= 4; subject++) {
            for (int subtree = 0; subtree <= 4; subtree++) {
                String what = "length " + subject + " in length " + subtree;
                Due.yes(what, liesIn(heads[subject], heads[subtree]) == (subtree <= subject));
            }
        }
    }

    private static void everyGroupOfTheSubtree() {
        int[] heads = {0, 0x7, 0x77, 0x777, 0x7777};
        for (int len = 1; len <= 4; len++) {
            for (int k = 0; k < 4; k++) {
                for (int label = 1; label <= 15; label++) {
                    int subject = 0x7777 & ~(15 << 4 * k) | label << 4 * k;
                    String what = "group " + k + " is " + label + ", subtree of length " + len;
                    Due.yes(what, liesIn(subject, heads[len]) == (k >= len || label == 7));
                }
            }
        }
    }

    private static void everyPairOfFewLabels() {
        int[] labels = {0, 1, 2, 3, 15};
        int[] names = new int[1 + 4 + 16 + 64 + 256];
        int count = 0;
        for (int k = 0; k < 625; k++) {
            int name = labels[k % 5] + 16 * labels[k / 5 % 5] + 256 * labels[k / 25 % 5] + 4096 * labels[k / 125];
            if (isName(name)) {
                names[count++] = name;
            }
        }
        Due.same("names", count, names.length);
        for (int subject : names) {
            for (int subtree : names) {
                Due.yes(subject + " in " + subtree, liesIn(subject, subtree) == PathModel.liesIn(subject, subtree));
            }
        }
    }

    private static void everyNameInTheEmptySubtree() {
        for (int name = 0; name <= 65535; name++) {
            if (isName(name)) {
                Due.yes(name + " in 0", liesIn(name, 0));
            }
        }
    }
}

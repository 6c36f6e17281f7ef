import java.util.Map;

/** Promises 2 and 3: setAnchor and setInitial. */
public final class InitialSettingsTest {
    public static void main(String[] args) {
        everyIntNearTheNames();
        refusedAnchorsChangeNothing();
        acceptedAnchor();
        initialRanges();
        acceptedInitial();
        Due.end();
    }

    /** The words of the document, read anew: labels up to the length, zeros from there on. */
    private static boolean isName(int value) {
        if (value < 0 || value > 65535) {
            return false;
        }
        String hex = new StringBuilder(String.format("%04x", value)).reverse().toString();
        return hex.matches("[1-9a-f]*0*");
    }

    private static void everyIntNearTheNames() {
        CertPathCheck x = new CertPathCheck(1);
        int names = 0;
        for (int value = -70000; value < 140000; value++) {
            int held = x.getField(-1, CertPathCheck.G_ANCHOR);
            boolean due = isName(value);
            Due.same("setAnchor(" + value + ")", x.setAnchor(value) ? 1 : 0, due ? 1 : 0);
            Due.same("anchor after " + value, x.getField(-1, CertPathCheck.G_ANCHOR), due ? value : held);
            names += due ? 1 : 0;
        }
        Due.same("count of names", names, 1 + 15 + 15 * 15 + 15 * 15 * 15 + 15 * 15 * 15 * 15);
    }

    private static void refusedAnchorsChangeNothing() {
        int[] refused = {-1, 65536, 0x0010, 0x0100, 0x1000, 0x0101, 0x1011, 0x1101, 0x1110, 0x10001,
            Integer.MIN_VALUE, Integer.MAX_VALUE, 0x80000001, 0xFFFF0001};
        CertPathCheck x = Paths.chain(3);
        x.validate(Paths.TIME);
        Map<String, Integer> before = Reading.of(x);
        for (int value : refused) {
            Due.no("setAnchor(" + value + ")", x.setAnchor(value));
            Due.changed("setAnchor(" + value + ")", before, Reading.of(x));
        }
    }

    private static void acceptedAnchor() {
        CertPathCheck x = Paths.chain(3);
        x.setInitial(12, 2);
        x.validate(Paths.TIME);
        Map<String, Integer> before = Reading.of(x);
        Due.yes("the same anchor", x.setAnchor(Paths.ANCHOR));
        Due.changed("the same anchor", before, Reading.of(x), "status");
        x.validate(Paths.TIME);
        Due.yes("another anchor", x.setAnchor(0x4321));
        Due.changed("another anchor", before, Reading.of(x), "status", "anchor");
        Due.same("another anchor", x.getField(-1, CertPathCheck.G_ANCHOR), 0x4321);
    }

    private static void initialRanges() {
        int[] policies = {Integer.MIN_VALUE, -1, 65536, 65537, 0x10000001, Integer.MAX_VALUE};
        int[] flags = {Integer.MIN_VALUE, -1, 8, 9, 16, Integer.MAX_VALUE};
        CertPathCheck x = Paths.chain(2);
        x.setInitial(5, 2);
        x.validate(Paths.TIME);
        Map<String, Integer> before = Reading.of(x);
        for (int k = 0; k < policies.length; k++) {
            Due.no("setInitial(" + policies[k] + ", 0)", x.setInitial(policies[k], 0));
            Due.no("setInitial(0, " + flags[k] + ")", x.setInitial(0, flags[k]));
            Due.no("setInitial both wrong", x.setInitial(policies[k], flags[k]));
        }
        Due.changed("refused setInitial", before, Reading.of(x));
    }

    private static void acceptedInitial() {
        int[] policies = {0, 1, 2, 0x8000, 65535};
        CertPathCheck x = Paths.chain(2);
        for (int mask : policies) {
            for (int flags = 0; flags <= 7; flags++) {
                Due.yes("setInitial", x.setInitial(mask, flags));
                Due.same("U", x.getField(-1, CertPathCheck.G_USER_POLICIES), mask);
                Due.same("flags", x.getField(-1, CertPathCheck.G_INIT_FLAGS), flags);
            }
        }
        x.setInitial(1, 0);
        x.validate(Paths.TIME);
        Map<String, Integer> before = Reading.of(x);
        Due.yes("the same values", x.setInitial(1, 0));
        Due.changed("the same values", before, Reading.of(x), "status");
        x.validate(Paths.TIME);
        Due.yes("other values", x.setInitial(0, 2));
        Due.changed("other values", before, Reading.of(x), "status", "U", "flags");
    }
}

/** Promise 3: setInitial. */
public final class SetInitialTest {
    private static final int[] NOT_MASKS = {Calls.LEAST, Calls.LEAST + 1, -65536, -65535, -2, -1, 65536, 65537, 131071,
        0x10000001, Calls.GREATEST};

    public static void main(String[] args) {
        Due.sentence("answers false and changes nothing if userPolicies is outside 0..65535", SetInitialTest::masks);
        Due.sentence("or flags is outside 0..7", SetInitialTest::flags);
        Due.sentence("Otherwise it stores userPolicies as U and flags as the initial flags (INIT_* bits)",
                SetInitialTest::stored);
        Due.sentence("resets the last result, and answers true", SetInitialTest::resets);
        Due.sentence("U = 0 is accepted.", SetInitialTest::emptySet);
        Due.sentence("The anchor and the certificates do not change.", SetInitialTest::nothingElse);
        Due.end();
    }

    private static void masks() {
        CertPathCheck x = Paths.policied(3);
        for (int mask : NOT_MASKS) {
            for (int flags : new int[] {0, 7, -1, 8}) {
                Calls.refused("setInitial(" + mask + ", " + flags + ")", x, () -> x.setInitial(mask, flags));
            }
        }
        Due.yes("the least", x.setInitial(0, 0));
        Due.yes("the greatest", x.setInitial(65535, 0));
    }

    private static void flags() {
        CertPathCheck x = Paths.policied(3);
        for (int flags : Calls.NOT_FLAGS) {
            for (int mask : new int[] {0, 1, 65535, -1, 65536}) {
                Calls.refused("setInitial(" + mask + ", " + flags + ")", x, () -> x.setInitial(mask, flags));
            }
        }
        Due.yes("the least", x.setInitial(1, 0));
        Due.yes("the greatest", x.setInitial(1, 7));
    }

    private static void stored() {
        CertPathCheck x = Paths.policied(2);
        for (int mask = 0; mask <= 65535; mask++) {
            int flags = mask % 8;
            Due.yes("setInitial", x.setInitial(mask, flags));
            Due.same("U", x.getField(-1, CertPathCheck.G_USER_POLICIES), mask);
            Due.same("flags", x.getField(-1, CertPathCheck.G_INIT_FLAGS), flags);
        }
    }

    private static void resets() {
        CertPathCheck x = Paths.policied(3);
        Calls.accepted("other values", x, () -> x.setInitial(1, 2), "U", "flags");
        Calls.accepted("the same values", x, () -> x.setInitial(1, 2));
        Calls.accepted("another U", x, () -> x.setInitial(65535, 2), "U");
        Calls.accepted("other flags", x, () -> x.setInitial(65535, 7), "flags");
    }

    private static void emptySet() {
        CertPathCheck x = Paths.policied(2);
        Calls.accepted("U = 0", x, () -> x.setInitial(0, 0), "U");
        Due.same("U", x.getField(-1, CertPathCheck.G_USER_POLICIES), 0);
        Paths.passes("nothing is accepted", x, 0, (1 << 3) + (1 << 5));
        x.addPolicy(0, 0);
        x.addPolicy(1, 0);
        Paths.passes("nor is any-policy", x, 0, 1 + (1 << 3) + (1 << 5));
        x.setInitial(0, CertPathCheck.INIT_EXPLICIT);
        Paths.fails("nothing is accepted, explicit", x, CertPathCheck.ERR_POLICY, 1);
    }

    private static void nothingElse() {
        for (int n = 0; n <= 8; n++) {
            CertPathCheck x = Full.path(n);
            Calls.accepted("with " + n + " certificates", x, () -> x.setInitial(65535, 7), "U", "flags");
        }
    }
}

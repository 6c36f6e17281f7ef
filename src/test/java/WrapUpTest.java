/** Promise 11, the wrap-up. Masks are sums of bits. */
public final class WrapUpTest {
    private static final int ANY = 1;
    private static final int P1 = 1 << 1;
    private static final int P2 = 1 << 2;
    private static final int P3 = 1 << 3;
    private static final int P5 = 1 << 5;
    private static final int P15 = 1 << 15;
    private static final int ALL = 65535;
    private static final int POLICY = CertPathCheck.ERR_POLICY;
    private static final int EXPLICIT = CertPathCheck.INIT_EXPLICIT;
    private static final int[] SETS = {0, ANY, P3, P5, P15, P3 + P5, ANY + P3, ANY + P5, ANY + P3 + P5, ALL, ALL - 1};

    public static void main(String[] args) {
        Due.sentence("if E > 0, E = E - 1", WrapUpTest::lastCountdown);
        Due.sentence("if requireExplicit(n-1) == 0, E = 0", WrapUpTest::leafConstraints);
        Due.sentence("R = the mask of all d with some (d, v) in N (the leaf's N)", WrapUpTest::authoritySet);
        Due.sentence("F = R if bit 0 of U is set", WrapUpTest::userTakesAny);
        Due.sentence("else F = (R & U) | (U if bit 0 of R is set, else 0)", WrapUpTest::userTakesSome);
        Due.sentence("if E == 0 and F == 0: ERR_POLICY, fail index n-1, F = R = 0", WrapUpTest::nothingAccepted);
        Due.sentence("otherwise OK, fail index -1, with F and R kept", WrapUpTest::kept);
        Due.end();
    }

    /** The path has no policies, so that it fails if E is 0 in the wrap-up. E is k at the leaf, 2 without a limit. */
    private static void lastCountdown() {
        for (int k = 0; k <= 2; k++) {
            for (int subject : new int[] {9, 2}) {
                CertPathCheck x = Paths.chain(1);
                x.setPolicyConstraints(0, k, -1, -1);
                Paths.append(x, subject);
                String what = "E is " + k + " at the leaf with subject " + subject;
                if (k <= 1) {
                    Paths.fails(what, x, POLICY, 1);
                } else {
                    Policies.passes(what, x, 0);
                }
            }
        }
    }

    private static void leafConstraints() {
        for (int n = 1; n <= 8; n++) {
            for (int k = -1; k <= 15; k++) {
                CertPathCheck x = Paths.chain(n);
                x.setPolicyConstraints(n - 1, k, 0, 0);
                if (k == 0) {
                    Paths.fails("the leaf's requireExplicit 0", x, POLICY, n - 1);
                } else {
                    Policies.passes("the leaf's requireExplicit " + k, x, 0);
                }
            }
        }
        CertPathCheck x = Policies.chain(P3, P3);
        x.setPolicyConstraints(1, 0, -1, -1);
        Policies.passes("0, but a policy is there", x, P3);
        x.setInitial(P2, 0);
        Paths.fails("0, and no user policy is there", x, POLICY, 1);
        x = Policies.chain(ANY, ANY);
        x.setPolicyConstraints(1, -1, 0, 0);
        Policies.passes("the leaf's other constraints are not used", x, ANY);
    }

    private static void authoritySet() {
        CertPathCheck x = Policies.chain(P1, P2);
        x.addMapping(0, 1, 2);
        Policies.passes("d, not v", x, P1);
        x = Policies.chain(P1, P2 + P3);
        x.addMapping(0, 1, 2);
        x.addMapping(0, 1, 3);
        Policies.passes("one d of two pairs", x, P1);
        x = Policies.chain(P1 + P15, P2);
        x.addMapping(0, 1, 2);
        x.addMapping(0, 15, 2);
        Policies.passes("two d of one v", x, P1 + P15);
        Policies.passes("d = 0", Policies.chain(ANY, ANY), ANY);
        Policies.passes("no pair", Policies.chain(P1, P2), 0);
        Policies.passes("the leaf's N, not the one before", Policies.chain(P1 + P2, P2), P2);
        Policies.passes("all d", Policies.chain(ALL, ALL), ALL);
    }

    /** The leaf alone, so that R is its policies. */
    private static void accepted(int user, int leaf, int due) {
        for (int flags = 0; flags <= EXPLICIT; flags++) {
            CertPathCheck x = Policies.chain(leaf);
            x.setInitial(user, flags);
            String what = "U " + user + ", R " + leaf + ", flags " + flags;
            if (flags == EXPLICIT && due == 0) {
                Paths.fails(what, x, POLICY, 0);
            } else {
                Paths.passes(what, x, due, leaf);
            }
        }
    }

    private static void userTakesAny() {
        for (int authority : SETS) {
            accepted(ANY, authority, authority);
            accepted(ANY + P5, authority, authority);
            accepted(ANY + P1 + P3, authority, authority);
            accepted(ALL, authority, authority);
        }
    }

    private static void userTakesSome() {
        accepted(P3, P3, P3);
        accepted(P5, P3, 0);
        accepted(P3 + P5, P3 + P2, P3);
        accepted(P3 + P5, ANY, P3 + P5);
        accepted(P5, ANY + P3, P5);
        accepted(P3 + P5, ANY + P3, P3 + P5);
        accepted(0, P3, 0);
        accepted(0, ANY, 0);
        accepted(0, ALL, 0);
        accepted(0, 0, 0);
        accepted(P3, 0, 0);
        accepted(P15, ALL, P15);
        accepted(ALL - 1, ANY, ALL - 1);
        accepted(ALL - 1, ALL, ALL - 1);
        accepted(ALL - 1, P15, P15);
        for (int user : SETS) {
            for (int authority : SETS) {
                if ((user & ANY) == 0) {
                    accepted(user, authority, (authority & ANY) != 0 ? user : user & authority);
                }
            }
        }
    }

    private static void nothingAccepted() {
        for (int n = 1; n <= 8; n++) {
            CertPathCheck x = Policies.chain(Policies.repeated(P3, n));
            x.setInitial(P2, EXPLICIT);
            Paths.fails("E is 0 from the start, F is empty", x, POLICY, n - 1);
            x.setInitial(0, EXPLICIT);
            Paths.fails("U is empty", x, POLICY, n - 1);
            x.setInitial(P2, 0);
            x.setPolicyConstraints(n - 1, 0, -1, -1);
            Paths.fails("E is 0 by the leaf, F is empty", x, POLICY, n - 1);
        }
        CertPathCheck x = Policies.chain(ANY);
        x.setInitial(0, EXPLICIT);
        Paths.fails("any-policy, but U is empty", x, POLICY, 0);
    }

    private static void kept() {
        for (int n = 1; n <= 8; n++) {
            CertPathCheck x = Policies.chain(Policies.repeated(P3 + P5, n));
            x.setInitial(P2, 0);
            Paths.passes("E > 0, F is empty", x, 0, P3 + P5);
            x.setInitial(P2 + P3, EXPLICIT);
            Paths.passes("E is 0, F is not empty", x, P3, P3 + P5);
            x.setInitial(P2 + P3, 0);
            Paths.passes("neither", x, P3, P3 + P5);
            Policies.passes("both, of a path without policies, E > 0", Paths.chain(n), 0);
        }
    }
}

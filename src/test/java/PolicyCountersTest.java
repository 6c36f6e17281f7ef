/** Promise 11, the counters E, P and A: how they start, fall and are limited. Masks are sums of bits. */
public final class PolicyCountersTest {
    private static final int ANY = 1;
    private static final int P1 = 1 << 1;
    private static final int P2 = 1 << 2;
    private static final int P3 = 1 << 3;
    private static final int P5 = 1 << 5;
    private static final int P15 = 1 << 15;
    private static final int POLICY = CertPathCheck.ERR_POLICY;
    private static final int EXPLICIT = CertPathCheck.INIT_EXPLICIT;
    private static final int NO_MAPPING = CertPathCheck.INIT_INHIBIT_MAPPING;
    private static final int NO_ANY = CertPathCheck.INIT_INHIBIT_ANY;

    public static void main(String[] args) {
        Due.sentence("E = 0 if INIT_EXPLICIT is set in the initial flags", PolicyCountersTest::explicitFromTheStart);
        Due.sentence("else n+1", PolicyCountersTest::freeFromTheStart);
        Due.sentence("P likewise, with INIT_INHIBIT_MAPPING", PolicyCountersTest::noMappingFromTheStart);
        Due.sentence("A likewise, with INIT_INHIBIT_ANY", PolicyCountersTest::noAnyFromTheStart);
        Due.sentence("If i is not self-issued, each of E, P and A that is > 0 decreases by 1.",
                PolicyCountersTest::countersFall);
        Due.sentence("Then E = requireExplicit(i) if that is >= 0 and < E", PolicyCountersTest::requireExplicitCounter);
        Due.sentence("P = inhibitMapping(i) likewise", PolicyCountersTest::inhibitMappingCounter);
        Due.sentence("A = inhibitAny(i) likewise", PolicyCountersTest::inhibitAnyCounter);
        Due.end();
    }

    /** Each of the three flags does its own work, whichever others are set. */
    private static void explicitFromTheStart() {
        for (int flags = 0; flags <= 7; flags++) {
            for (int n = 1; n <= 8; n++) {
                CertPathCheck x = Paths.chain(n);
                x.setInitial(ANY, flags);
                String what = "no policies in " + n + ", flags " + flags;
                if ((flags & EXPLICIT) != 0) {
                    Paths.fails(what, x, POLICY, 0);
                } else {
                    Policies.passes(what, x, 0);
                }
                x = Policies.chain(Policies.repeated(P15, n));
                x.setInitial(ANY, flags);
                Policies.passes("a policy in each of " + n + ", flags " + flags, x, P15);
            }
        }
    }

    private static void freeFromTheStart() {
        for (int n = 1; n <= 8; n++) {
            Policies.passes("no policies in " + n, Paths.chain(n), 0);
            Policies.passes("any-policy in " + n, Policies.chain(Policies.repeated(ANY, n)), ANY);
            CertPathCheck x = Policies.chain(Policies.repeated(P5, n));
            for (int cert = 0; cert < n; cert++) {
                x.addMapping(cert, 5, 5);
            }
            Policies.passes("mappings in " + n, x, P5);
        }
    }

    private static void noMappingFromTheStart() {
        for (int flags = 0; flags <= 7; flags++) {
            boolean mapping = (flags & NO_MAPPING) == 0;
            CertPathCheck x = Policies.chain(P1 + P3, P2 + P3);
            x.addMapping(0, 1, 2);
            x.setInitial(ANY, flags);
            Policies.passes("1 to 2, flags " + flags, x, mapping ? P1 + P3 : P3);
        }
    }

    private static void noAnyFromTheStart() {
        for (int flags = 0; flags <= 7; flags++) {
            boolean any = (flags & NO_ANY) == 0;
            CertPathCheck x = Policies.chain(ANY + P3, P2 + P3);
            x.setInitial(ANY, flags);
            Policies.passes("any-policy first, flags " + flags, x, any ? P2 + P3 : P3);
            x = Policies.chain(P2 + P3, ANY + P3);
            x.setInitial(ANY, flags);
            Policies.passes("any-policy last, flags " + flags, x, any ? P2 + P3 : P3);
        }
    }

    /** A constraint of 1 at position 0, three self-issued certificates, and three more; the leaf is at 6. */
    private static CertPathCheck withSelfIssued(int policies, int explicit, int mapping, int any) {
        CertPathCheck x = Paths.chain(1);
        x.setPolicyConstraints(0, explicit, mapping, any);
        Paths.appendSelfIssued(x);
        Paths.appendSelfIssued(x);
        Paths.appendSelfIssued(x);
        Paths.append(x, 9);
        Paths.append(x, 10);
        Paths.append(x, 11);
        for (int cert = 0; cert < 7; cert++) {
            Policies.add(x, cert, policies);
        }
        return x;
    }

    private static void countersFall() {
        Paths.fails("E over self-issued ones", withSelfIssued(0, 1, -1, -1), POLICY, 5);
        CertPathCheck x = withSelfIssued(ANY, -1, -1, 1);
        x.setInitial(ANY, EXPLICIT);
        Paths.fails("A over self-issued ones", x, POLICY, 5);
        x = withSelfIssued(P5, -1, 1, -1);
        x.setInitial(ANY, EXPLICIT);
        x.addMapping(3, 5, 5);
        x.addMapping(4, 5, 5);
        Policies.passes("P over self-issued ones, while one is left", x, P5);
        x.addMapping(5, 5, 5);
        Paths.fails("P over self-issued ones, when none is left", x, POLICY, 6);

        // Once at 0 each stays there, however many certificates follow.
        x = Paths.chain(8);
        Paths.policies(x, 0, 1);
        x.setInitial(ANY, EXPLICIT);
        Paths.fails("E stays 0", x, POLICY, 1);
        for (int without = 1; without < 8; without++) {
            int[] masks = Policies.repeated(P1, 8);
            masks[without] = 0;
            x = Policies.chain(masks);
            x.setPolicyConstraints(0, 0, -1, -1);
            Paths.fails("E stays 0 to " + without, x, POLICY, without);

            masks[without] = ANY;
            x = Policies.chain(masks);
            x.setPolicyConstraints(0, -1, -1, 0);
            Policies.passes("A stays 0 to " + without, x, 0);

            x = Policies.chain(Policies.repeated(P1, 8));
            x.setPolicyConstraints(0, -1, 0, -1);
            x.addMapping(without, 1, 1);
            Policies.passes("P stays 0 to " + without, x, without == 7 ? P1 : 0);
        }
    }

    /** Without policies, requireExplicit k fails k + 1 certificates on, or at the leaf by the wrap-up. */
    private static void requireExplicitCounter() {
        for (int n = 2; n <= 8; n++) {
            for (int at = 0; at < n - 1; at++) {
                for (int k = -1; k <= 15; k++) {
                    CertPathCheck x = Paths.chain(n);
                    x.setPolicyConstraints(at, k, -1, -1);
                    String what = "requireExplicit " + k + " at " + at + " of " + n;
                    if (k < 0 || at + k > n - 1) {
                        Policies.passes(what, x, 0);
                    } else {
                        Paths.fails(what, x, POLICY, Math.min(at + k + 1, n - 1));
                    }
                }
            }
        }
        CertPathCheck x = Paths.chain(5);
        x.setPolicyConstraints(0, 2, -1, -1);
        x.setPolicyConstraints(1, 15, -1, -1);
        Paths.fails("a greater number changes nothing", x, POLICY, 3);
        x.setPolicyConstraints(1, 0, -1, -1);
        Paths.fails("a smaller one does", x, POLICY, 2);
        x.setPolicyConstraints(0, 0, -1, -1);
        x.setPolicyConstraints(1, 15, -1, -1);
        Paths.fails("nothing is smaller than 0", x, POLICY, 1);
        x.setInitial(ANY, EXPLICIT);
        Paths.fails("0 from the start", x, POLICY, 0);

        x = Paths.chain(1);
        Paths.appendSelfIssued(x);
        x.setPolicyConstraints(1, 0, -1, -1);
        Paths.append(x, 9);
        Paths.fails("a self-issued certificate's constraint binds", x, POLICY, 2);
    }

    /** Each certificate maps 5 to 5: that keeps it while mapping is free and drops it once it is not. */
    private static void inhibitMappingCounter() {
        for (int n = 2; n <= 8; n++) {
            for (int at = 0; at < n - 1; at++) {
                for (int k = -1; k <= 15; k++) {
                    CertPathCheck x = Policies.chain(Policies.repeated(P5, n));
                    x.setInitial(ANY, EXPLICIT);
                    for (int cert = 0; cert < n; cert++) {
                        x.addMapping(cert, 5, 5);
                    }
                    x.setPolicyConstraints(at, -1, k, -1);
                    String what = "inhibitMapping " + k + " at " + at + " of " + n;
                    if (k < 0 || at + k + 2 > n - 1) {
                        Policies.passes(what, x, P5);
                    } else {
                        Paths.fails(what, x, POLICY, at + k + 2);
                    }
                }
            }
        }
        CertPathCheck x = Policies.chain(P5, P5, P5, P5);
        x.addMapping(2, 5, 5);
        x.setPolicyConstraints(0, -1, 0, -1);
        x.setPolicyConstraints(1, -1, 15, -1);
        Policies.passes("a greater number changes nothing", x, 0);
        x.setPolicyConstraints(0, -1, 15, -1);
        x.setPolicyConstraints(1, -1, 0, -1);
        Policies.passes("a smaller one does", x, 0);

        x = Paths.chain(1);
        Paths.appendSelfIssued(x);
        x.setPolicyConstraints(1, -1, 0, -1);
        Paths.append(x, 9);
        x.addMapping(2, 5, 5);
        Paths.append(x, 10);
        for (int cert = 0; cert < 4; cert++) {
            x.addPolicy(cert, 5);
        }
        Policies.passes("a self-issued certificate's constraint binds", x, 0);
    }

    private static void inhibitAnyCounter() {
        for (int n = 2; n <= 8; n++) {
            for (int at = 0; at < n - 1; at++) {
                for (int k = -1; k <= 15; k++) {
                    CertPathCheck x = Policies.chain(Policies.repeated(ANY, n));
                    x.setInitial(ANY, EXPLICIT);
                    x.setPolicyConstraints(at, -1, -1, k);
                    String what = "inhibitAny " + k + " at " + at + " of " + n;
                    if (k < 0 || at + k + 1 > n - 1) {
                        Policies.passes(what, x, ANY);
                    } else {
                        Paths.fails(what, x, POLICY, at + k + 1);
                    }
                }
            }
        }
        CertPathCheck x = Policies.chain(ANY, ANY, ANY, ANY);
        x.setPolicyConstraints(0, -1, -1, 1);
        x.setPolicyConstraints(1, -1, -1, 15);
        Policies.passes("a greater number changes nothing", x, 0);
        x.setPolicyConstraints(0, -1, -1, 15);
        x.setPolicyConstraints(1, -1, -1, 0);
        Policies.passes("a smaller one does", x, 0);

        x = Paths.chain(1);
        Paths.appendSelfIssued(x);
        x.setPolicyConstraints(1, -1, -1, 0);
        Paths.append(x, 9);
        for (int cert = 0; cert < 3; cert++) {
            x.addPolicy(cert, 0);
        }
        Policies.passes("a self-issued certificate's constraint binds", x, 0);
    }
}

/** Promise 11, the policies: checks 4, 8 and 9 and the wrap-up. Masks are written as sums of bits. */
public final class PolicyChecksTest {
    private static final int ANY = 1;
    private static final int P1 = 1 << 1;
    private static final int P2 = 1 << 2;
    private static final int P3 = 1 << 3;
    private static final int P5 = 1 << 5;
    private static final int P15 = 1 << 15;
    private static final int POLICY = CertPathCheck.ERR_POLICY;
    private static final int EXPLICIT = CertPathCheck.INIT_EXPLICIT;
    private static final int NO_MAPPING = CertPathCheck.INIT_INHIBIT_MAPPING;
    private static final int NO_ANY = CertPathCheck.INIT_INHIBIT_ANY;

    public static void main(String[] args) {
        leafAlone();
        acceptedSet();
        intersection();
        inhibitedAny();
        mappingOfNamedPolicies();
        severalPairsOfOnePolicy();
        nothingOfAnEarlierWalkRemains();
        mappingUnderAnyPolicy();
        inhibitedMapping();
        leafMappingsAreNotUsed();
        requireExplicitCounter();
        inhibitAnyCounter();
        inhibitMappingCounter();
        selfIssuedKeepTheCounters();
        countersOnlyFall();
        leafConstraints();
        Due.end();
    }

    /** A chain whose certificate at i has the policies of the mask masks[i]. */
    private static CertPathCheck chain(int... masks) {
        CertPathCheck x = Paths.chain(masks.length);
        for (int cert = 0; cert < masks.length; cert++) {
            addPolicies(x, cert, masks[cert]);
        }
        return x;
    }

    private static void addPolicies(CertPathCheck x, int cert, int mask) {
        for (int policy = 0; policy <= 15; policy++) {
            if ((mask >> policy & 1) != 0) {
                x.addPolicy(cert, policy);
            }
        }
    }

    private static void authority(String what, CertPathCheck x, int mask) {
        Paths.passes(what, x, mask, mask);
    }

    private static void leafAlone() {
        authority("no policies", chain(0), 0);
        authority("one policy", chain(P3), P3);
        authority("any-policy", chain(ANY), ANY);
        authority("all", chain(65535), 65535);
        CertPathCheck x = chain(0);
        x.setInitial(ANY, EXPLICIT);
        Paths.fails("explicit, no policies", x, POLICY, 0);
        x.addPolicy(0, 15);
        Paths.passes("explicit, a policy", x, P15, P15);
    }

    private static void accepted(int user, int leaf, int due) {
        for (int flags = 0; flags <= EXPLICIT; flags++) {
            CertPathCheck x = chain(leaf);
            x.setInitial(user, flags);
            String what = "U " + user + ", R " + leaf + ", flags " + flags;
            if (flags == EXPLICIT && due == 0) {
                Paths.fails(what, x, POLICY, 0);
            } else {
                Paths.passes(what, x, due, leaf);
            }
        }
    }

    private static void acceptedSet() {
        accepted(ANY, P3, P3);
        accepted(ANY + P5, P3, P3);
        accepted(P3, P3, P3);
        accepted(P5, P3, 0);
        accepted(P3 + P5, P3 + P2, P3);
        accepted(P3 + P5, ANY, P3 + P5);
        accepted(P5, ANY + P3, P5);
        accepted(P3 + P5, ANY + P3, P3 + P5);
        accepted(ANY + P5, ANY + P3, ANY + P3);
        accepted(0, P3, 0);
        accepted(0, ANY, 0);
        accepted(65535, 65535, 65535);
        accepted(65534, ANY, 65534);
        accepted(ANY, 0, 0);
    }

    private static void intersection() {
        authority("two sets", chain(P1 + P2, P2 + P3), P2);
        authority("apart", chain(P1, P2), 0);
        authority("any-policy first", chain(ANY, P2), P2);
        authority("any-policy last", chain(P2, ANY), P2);
        authority("any-policy twice", chain(ANY, ANY), ANY);
        authority("any-policy and a policy", chain(ANY + P1, P1 + P2), P1 + P2);
        authority("any-policy and a policy, then any-policy", chain(ANY + P1, ANY), ANY + P1);
        authority("a gap", chain(P1, 0, P1), 0);
        authority("a gap behind any-policy", chain(ANY, 0, ANY), 0);
        authority("three sets", chain(P1 + P2 + P3, ANY, P3 + P5), P3);
        CertPathCheck x = chain(P1, P2, P2);
        x.setInitial(ANY, EXPLICIT);
        Paths.fails("fails where the set gets empty", x, POLICY, 1);
    }

    private static void inhibitedAny() {
        CertPathCheck x = chain(ANY, P3);
        x.setInitial(ANY, NO_ANY);
        authority("any-policy does not count", x, 0);
        x = chain(ANY + P3, P3);
        x.setInitial(ANY, NO_ANY);
        authority("the named one does", x, P3);
        x = chain(P3, ANY);
        x.setInitial(ANY, NO_ANY);
        authority("nor does it keep a named one", x, 0);

        x = new CertPathCheck(8);
        x.setInitial(ANY, NO_ANY);
        Paths.appendSelfIssued(x);
        x.addPolicy(0, 0);
        authority("a self-issued leaf", x, 0);
        Paths.append(x, 5);
        x.addPolicy(1, 3);
        authority("a self-issued certificate before the leaf", x, P3);
    }

    private static void mappingOfNamedPolicies() {
        CertPathCheck x = chain(P1, P2);
        x.addMapping(0, 1, 2);
        authority("named by the issuer's policy", x, P1);
        x = chain(P1, P1);
        x.addMapping(0, 1, 2);
        authority("the mapped policy itself is gone", x, 0);
        x = chain(P1, P3);
        x.addMapping(0, 1, 2);
        x.addMapping(0, 1, 3);
        authority("two targets", x, P1);
        x = chain(P1 + P2, P3);
        x.addMapping(0, 1, 3);
        x.addMapping(0, 2, 3);
        authority("two sources", x, P1 + P2);
        x = chain(P1 + P2, P3);
        x.addMapping(0, 1, 2);
        x.addMapping(0, 2, 3);
        authority("one step a certificate", x, P2);
        x = chain(P1, P2, P3);
        x.addMapping(0, 1, 2);
        x.addMapping(1, 2, 3);
        authority("two certificates, two steps", x, P1);
        x = chain(P1, ANY);
        x.addMapping(0, 1, 2);
        authority("any-policy keeps a mapped one", x, P1);
        x = chain(P1 + P2, P1 + P2);
        x.addMapping(0, 1, 2);
        x.addMapping(0, 2, 1);
        authority("swapped", x, P1 + P2);
        x = chain(P1 + P2, P1);
        x.addMapping(0, 1, 2);
        x.addMapping(0, 2, 1);
        authority("swapped, one left", x, P2);
        x = chain(P1, P5);
        x.addMapping(0, 3, 5);
        authority("a mapping of a policy that is not there", x, 0);
    }

    private static void severalPairsOfOnePolicy() {
        CertPathCheck x = chain(P1, P2 + P3, P2);
        x.addMapping(0, 1, 2);
        x.addMapping(0, 1, 3);
        authority("the first of two is carried on", x, P1);
        x = chain(P1, P2 + P3, P5);
        x.addMapping(0, 1, 2);
        x.addMapping(0, 1, 3);
        x.addMapping(1, 2, 5);
        x.addMapping(1, 3, 6);
        authority("the first of two is mapped on", x, P1);
        x = chain(ANY, P1 + P2, P2);
        x.addMapping(0, 1, 2);
        authority("a mapped pair beside a newly named one", x, P1 + P2);
    }

    /** The pairs of an earlier path would name policy 1 for a leaf that only has policy 2. */
    private static void nothingOfAnEarlierWalkRemains() {
        CertPathCheck x = chain(P1, P2);
        x.addMapping(0, 1, 2);
        authority("the earlier path", x, P1);
        x.removeLast();
        x.removeLast();
        Paths.append(x, 9);
        x.addPolicy(0, 2);
        authority("the later path", x, P2);
    }

    private static void mappingUnderAnyPolicy() {
        CertPathCheck x = chain(ANY, P2);
        x.addMapping(0, 1, 2);
        authority("the mapped policy is opened beside any-policy", x, P1 + P2);
        x = chain(ANY, ANY);
        x.addMapping(0, 15, 2);
        authority("both stay", x, ANY + P15);
        x = chain(P3, P2);
        x.addMapping(0, 1, 2);
        authority("without any-policy nothing is opened", x, 0);
        x = chain(ANY, P2);
        x.addMapping(0, 1, 2);
        x.setInitial(ANY, NO_ANY);
        authority("inhibited any-policy opens nothing", x, 0);
        x = chain(P1, ANY + P2, P2 + P3);
        x.addMapping(1, 2, 3);
        authority("any-policy opens nothing once (0,0) is gone", x, 0);
        x = chain(P1, ANY + P2, P1 + P2 + P3);
        x.addMapping(1, 1, 3);
        authority("it keeps what is there", x, P1);
        for (int k = 0; k <= 1; k++) {
            x = chain(ANY, ANY, P2);
            x.setPolicyConstraints(0, -1, k, -1);
            x.addMapping(1, 1, 2);
            authority("opened with " + k + " mappings left", x, k == 0 ? P2 : P1 + P2);
        }
    }

    private static void inhibitedMapping() {
        CertPathCheck x = chain(P1, P2);
        x.addMapping(0, 1, 2);
        x.setInitial(ANY, NO_MAPPING);
        authority("no mapping", x, 0);
        x = chain(P1, P1);
        x.addMapping(0, 1, 2);
        x.setInitial(ANY, NO_MAPPING);
        authority("the mapped policy is gone all the same", x, 0);
        x = chain(ANY, P2);
        x.addMapping(0, 1, 2);
        x.setInitial(ANY, NO_MAPPING);
        authority("nothing opened under any-policy", x, P2);
        x = chain(ANY + P1, P1);
        x.addMapping(0, 1, 2);
        x.setInitial(ANY, NO_MAPPING);
        authority("any-policy stays and names it again", x, P1);
        x = chain(P1 + P3, P1 + P3);
        x.addMapping(0, 1, 2);
        x.setInitial(ANY, NO_MAPPING);
        authority("a policy without mapping stays", x, P3);
    }

    private static void leafMappingsAreNotUsed() {
        CertPathCheck x = chain(ANY, ANY);
        x.addMapping(1, 5, 6);
        authority("the leaf opens nothing", x, ANY);
        x = chain(P5, P5);
        x.addMapping(1, 5, 6);
        authority("the leaf maps nothing", x, P5);
    }

    private static int[] repeated(int mask, int n) {
        int[] masks = new int[n];
        java.util.Arrays.fill(masks, mask);
        return masks;
    }

    /** Without policies, requireExplicit k fails k + 1 certificates on, or at the leaf by the wrap-up. */
    private static void requireExplicitCounter() {
        for (int n = 2; n <= 8; n++) {
            for (int at = 0; at < n - 1; at++) {
                for (int k = 0; k <= 15; k++) {
                    CertPathCheck x = Paths.chain(n);
                    x.setPolicyConstraints(at, k, -1, -1);
                    String what = "requireExplicit " + k + " at " + at + " of " + n;
                    if (at + k > n - 1) {
                        authority(what, x, 0);
                    } else {
                        Paths.fails(what, x, POLICY, Math.min(at + k + 1, n - 1));
                    }
                }
            }
        }
    }

    private static void inhibitAnyCounter() {
        for (int n = 2; n <= 8; n++) {
            for (int at = 0; at < n - 1; at++) {
                for (int k = 0; k <= 15; k++) {
                    CertPathCheck x = chain(repeated(ANY, n));
                    x.setInitial(ANY, EXPLICIT);
                    x.setPolicyConstraints(at, -1, -1, k);
                    String what = "inhibitAny " + k + " at " + at + " of " + n;
                    if (at + k + 1 > n - 1) {
                        authority(what, x, ANY);
                    } else {
                        Paths.fails(what, x, POLICY, at + k + 1);
                    }
                }
            }
        }
    }

    /** Each certificate maps 5 to 5: that keeps it while mapping is free and drops it once it is not. */
    private static void inhibitMappingCounter() {
        for (int n = 2; n <= 8; n++) {
            for (int at = 0; at < n - 1; at++) {
                for (int k = 0; k <= 15; k++) {
                    CertPathCheck x = chain(repeated(P5, n));
                    x.setInitial(ANY, EXPLICIT);
                    for (int cert = 0; cert < n; cert++) {
                        x.addMapping(cert, 5, 5);
                    }
                    x.setPolicyConstraints(at, -1, k, -1);
                    String what = "inhibitMapping " + k + " at " + at + " of " + n;
                    if (at + k + 2 > n - 1) {
                        authority(what, x, P5);
                    } else {
                        Paths.fails(what, x, POLICY, at + k + 2);
                    }
                }
            }
        }
    }

    /** A constraint of 1, then self-issued certificates, a certificate that uses it up, and the leaf. */
    private static CertPathCheck withSelfIssued(int policies, int explicit, int mapping, int any) {
        CertPathCheck x = Paths.chain(1);
        x.setPolicyConstraints(0, explicit, mapping, any);
        Paths.appendSelfIssued(x);
        Paths.appendSelfIssued(x);
        Paths.appendSelfIssued(x);
        Paths.append(x, 9);
        Paths.append(x, 10);
        Paths.append(x, 11);
        for (int cert = 0; cert < 7; cert++) {
            addPolicies(x, cert, policies);
        }
        return x;
    }

    private static void selfIssuedKeepTheCounters() {
        Paths.fails("explicit", withSelfIssued(0, 1, -1, -1), POLICY, 5);

        CertPathCheck x = withSelfIssued(ANY, -1, -1, 1);
        x.setInitial(ANY, EXPLICIT);
        Paths.fails("any-policy", x, POLICY, 5);

        x = withSelfIssued(P5, -1, 1, -1);
        x.setInitial(ANY, EXPLICIT);
        x.addMapping(3, 5, 5);
        x.addMapping(4, 5, 5);
        authority("mapping while one is left", x, P5);
        x.addMapping(5, 5, 5);
        Paths.fails("mapping when none is left", x, POLICY, 6);

        x = Paths.chain(1);
        Paths.appendSelfIssued(x);
        x.setPolicyConstraints(1, 0, -1, -1);
        Paths.append(x, 9);
        Paths.fails("a self-issued certificate's constraint binds", x, POLICY, 2);

        x = Paths.chain(1);
        x.setPolicyConstraints(0, 1, -1, -1);
        Paths.appendSelfIssued(x);
        Paths.fails("a self-issued leaf uses one up in the wrap-up", x, POLICY, 1);
    }

    private static void countersOnlyFall() {
        CertPathCheck x = Paths.chain(5);
        x.setPolicyConstraints(0, 2, -1, -1);
        x.setPolicyConstraints(1, 15, -1, -1);
        Paths.fails("a greater number changes nothing", x, POLICY, 3);
        x.setPolicyConstraints(1, 0, -1, -1);
        Paths.fails("a smaller one does", x, POLICY, 2);
        x.setPolicyConstraints(0, 0, -1, -1);
        x.setPolicyConstraints(1, -1, -1, -1);
        Paths.fails("0 stays 0", x, POLICY, 1);
        x.setInitial(ANY, EXPLICIT);
        x.setPolicyConstraints(0, 15, -1, -1);
        Paths.fails("0 from the start", x, POLICY, 0);

        x = chain(ANY, ANY, ANY, ANY);
        x.setPolicyConstraints(0, -1, -1, 0);
        x.setPolicyConstraints(1, -1, -1, 15);
        authority("inhibitAny 0 stays 0", x, 0);

        x = chain(P5, P5, P5, P5);
        x.setPolicyConstraints(0, -1, 0, -1);
        x.setPolicyConstraints(1, -1, 15, -1);
        x.addMapping(2, 5, 5);
        authority("inhibitMapping 0 stays 0", x, 0);
    }

    private static void leafConstraints() {
        for (int k = -1; k <= 15; k++) {
            CertPathCheck x = Paths.chain(3);
            x.setPolicyConstraints(2, k, 0, 0);
            if (k == 0) {
                Paths.fails("the leaf's requireExplicit 0", x, POLICY, 2);
            } else {
                authority("the leaf's requireExplicit " + k, x, 0);
            }
        }
        CertPathCheck x = chain(P3, P3);
        x.setInitial(P2, 0);
        Paths.passes("no user policy, not explicit", x, 0, P3);
        x.setPolicyConstraints(1, 0, -1, -1);
        Paths.fails("no user policy, explicit by the leaf", x, POLICY, 1);
        x.setInitial(P2 + P3, 0);
        Paths.passes("a user policy, explicit by the leaf", x, P3, P3);
        x = chain(ANY, ANY);
        x.setPolicyConstraints(1, -1, 0, 0);
        authority("the leaf's inhibitAny is not used", x, ANY);
    }
}

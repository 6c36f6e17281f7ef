/** Promise 11, checks 4 and 8: which pairs a certificate keeps, opens and maps. Masks are sums of bits. */
public final class PolicyNodesTest {
    private static final int ANY = 1;
    private static final int P1 = 1 << 1;
    private static final int P2 = 1 << 2;
    private static final int P3 = 1 << 3;
    private static final int P5 = 1 << 5;
    private static final int P15 = 1 << 15;
    private static final int ALL = 65535;
    private static final int POLICY = CertPathCheck.ERR_POLICY;
    private static final int EXPLICIT = CertPathCheck.INIT_EXPLICIT;
    private static final int NO_MAPPING = CertPathCheck.INIT_INHIBIT_MAPPING;
    private static final int NO_ANY = CertPathCheck.INIT_INHIBIT_ANY;

    public static void main(String[] args) {
        Due.sentence("starting as S = {(0,0)}", PolicyNodesTest::firstPairs);
        Due.sentence("anyOk = (bit 0 of C is set) and (A > 0 or (i is self-issued and not last))",
                PolicyNodesTest::anyOk);
        Due.sentence("if L != 0: (d, L) joins N when bit L of C is set or anyOk", PolicyNodesTest::namedPairs);
        Due.sentence("if L == 0: (p, p) joins N for each p in 1..15 with bit p of C set.",
                PolicyNodesTest::namedUnderAny);
        Due.sentence("If anyOk, (0, 0) joins N", PolicyNodesTest::anyStays);
        Due.sentence("when not last and P > 0, so does (p, p) for each p in 1..15 with T(p) != 0",
                PolicyNodesTest::mappedUnderAny);
        Due.sentence("N is a set: a pair that joins twice is there once.", PolicyNodesTest::joinsTwice);
        Due.sentence("ERR_POLICY if E == 0 and N is empty.", PolicyNodesTest::emptyNodes);
        Due.sentence("when P > 0, (d, t) for each t with bit t of T(v) set", PolicyNodesTest::mappedPairs);
        Due.sentence("when P == 0, nothing", PolicyNodesTest::inhibitedMapping);
        Due.sentence("otherwise: (d, v)", PolicyNodesTest::unmappedPairs);
        Due.end();
    }

    private static void firstPairs() {
        for (int policy = 0; policy <= 15; policy++) {
            Policies.passes("policy " + policy + " alone", Policies.chain(1 << policy), 1 << policy);
        }
        Policies.passes("none", Policies.chain(0), 0);
        Policies.passes("all", Policies.chain(ALL), ALL);

        // The pairs of an earlier path would name policy 1 for a leaf that only has policy 2.
        CertPathCheck x = Policies.chain(P1, P2);
        x.addMapping(0, 1, 2);
        Policies.passes("the earlier path", x, P1);
        x.removeLast();
        x.removeLast();
        Paths.append(x, 9);
        x.addPolicy(0, 2);
        Policies.passes("the later path", x, P2);
    }

    /** After position 0 A is left; position 1 keeps policy 3 by any-policy alone. */
    private static void anyOk() {
        for (int left = 0; left <= 2; left++) {
            for (int k = 0; k < 8; k++) {
                boolean bit = (k & 1) != 0;
                boolean selfIssued = (k & 2) != 0;
                boolean last = (k & 4) != 0;
                CertPathCheck x = Policies.chain(P3);
                x.setPolicyConstraints(0, -1, -1, left);
                Paths.append(x, selfIssued ? 2 : 9);
                Paths.policies(x, 1, bit ? 0 : 4);
                if (!last) {
                    Paths.append(x, 10);
                    Paths.policies(x, 2, 3);
                }
                boolean ok = bit && (left > 0 || selfIssued && !last);
                String what = "A " + left + ", bit " + bit + ", self-issued " + selfIssued + ", last " + last;
                Policies.passes(what, x, ok ? P3 : 0);
            }
        }
        CertPathCheck x = new CertPathCheck(8);
        x.setInitial(ANY, NO_ANY);
        Paths.appendSelfIssued(x);
        x.addPolicy(0, 0);
        Policies.passes("a self-issued leaf at position 0", x, 0);
        Paths.append(x, 5);
        x.addPolicy(1, 3);
        Policies.passes("no longer the leaf", x, P3);
    }

    private static void namedPairs() {
        for (int held = 1; held <= 15; held++) {
            for (int policy = 0; policy <= 15; policy++) {
                boolean joins = policy == held || policy == 0;
                CertPathCheck x = Policies.chain(1 << held, 1 << policy);
                Policies.passes(held + " under " + policy, x, joins ? 1 << held : 0);
            }
            Policies.passes(held + " under all others", Policies.chain(1 << held, ALL - 1 - (1 << held)), 0);
            Policies.passes(held + " under none", Policies.chain(1 << held, 0), 0);
        }
        Policies.passes("two sets", Policies.chain(P1 + P2, P2 + P3), P2);
        Policies.passes("three sets", Policies.chain(P1 + P2 + P3, ANY, P3 + P5), P3);
        Policies.passes("a gap", Policies.chain(P1, 0, P1), 0);
        Policies.passes("nothing new joins a named set", Policies.chain(P1, ANY + P2, P1 + P2), P1);

        CertPathCheck x = Policies.chain(P1, P2 + P3, P2);
        x.addMapping(0, 1, 2);
        x.addMapping(0, 1, 3);
        Policies.passes("the first of two pairs of one d", x, P1);
        x = Policies.chain(P1, ANY);
        x.addMapping(0, 1, 2);
        Policies.passes("a mapped pair by any-policy", x, P1);
        x = Policies.chain(ANY + P1, P1 + P2, P2);
        x.addMapping(0, 1, 2);
        Policies.passes("(1, 2) stays beside the (1, 1) that (0, 0) opens", x, P1 + P2);
    }

    private static void namedUnderAny() {
        for (int policy = 1; policy <= 15; policy++) {
            Policies.passes(policy + " under any-policy", Policies.chain(ANY, 1 << policy), 1 << policy);
            Policies.passes("then again", Policies.chain(ANY, 1 << policy, 1 << policy), 1 << policy);
        }
        Policies.passes("all but any-policy", Policies.chain(ANY, ALL - 1), ALL - 1);
        Policies.passes("beside one that was named", Policies.chain(ANY + P1, P1 + P2), P1 + P2);
        Policies.passes("under any-policy of any-policy", Policies.chain(ANY, ANY, P15), P15);
        CertPathCheck x = Policies.chain(ANY + P1, P1 + P2, P1);
        x.addMapping(0, 1, 2);
        Policies.passes("(1, 1) joins beside the (1, 2) that is held", x, P1);
    }

    private static void anyStays() {
        for (int n = 1; n <= 8; n++) {
            Policies.passes("any-policy " + n + " times", Policies.chain(Policies.repeated(ANY, n)), ANY);
            Policies.passes("all policies " + n + " times", Policies.chain(Policies.repeated(ALL, n)), ALL);
        }
        Policies.passes("beside a policy", Policies.chain(ANY + P1, ANY), ANY + P1);
        Policies.passes("gone after a certificate without it", Policies.chain(ANY, P1, ANY), P1);
        Policies.passes("gone after a certificate without policies", Policies.chain(ANY, 0, ANY), 0);
        CertPathCheck x = Policies.chain(ANY, ANY);
        x.setInitial(ANY, EXPLICIT + NO_ANY);
        Paths.fails("not while it is inhibited", x, POLICY, 0);
    }

    private static void mappedUnderAny() {
        for (int policy = 1; policy <= 15; policy++) {
            int other = policy % 15 + 1;
            CertPathCheck x = Policies.chain(ANY, 1 << other);
            x.addMapping(0, policy, other);
            Policies.passes(policy + " is opened", x, (1 << policy) + (1 << other));
            x = Policies.chain(ANY, ANY);
            x.addMapping(0, policy, other);
            Policies.passes(policy + " is opened beside any-policy", x, ANY + (1 << policy));
            x = Policies.chain(ANY, ANY);
            x.addMapping(1, policy, other);
            Policies.passes("not at the leaf", x, ANY);
            x = Policies.chain(ANY);
            x.addMapping(0, policy, other);
            Policies.passes("not at a leaf that is the first", x, ANY);
        }
        for (int left = 0; left <= 2; left++) {
            CertPathCheck x = Policies.chain(ANY, ANY, P2);
            x.setPolicyConstraints(0, -1, left, -1);
            x.addMapping(1, 1, 2);
            Policies.passes("opened with P " + left, x, left == 0 ? P2 : P1 + P2);
        }
        CertPathCheck x = Policies.chain(P3, P2);
        x.addMapping(0, 1, 2);
        Policies.passes("without any-policy nothing is opened", x, 0);
        x = Policies.chain(ANY + P3, P2 + P3);
        x.addMapping(0, 1, 2);
        x.setInitial(ANY, NO_ANY);
        Policies.passes("nor under an inhibited one", x, P3);
        x = Policies.chain(P1, ANY + P2, P2 + P3);
        x.addMapping(1, 2, 3);
        Policies.passes("nor once (0,0) is gone", x, 0);
    }

    private static void joinsTwice() {
        CertPathCheck x = Policies.chain(ANY + P1, P2);
        x.addMapping(0, 1, 2);
        Policies.passes("by its name and by its mapping", x, P1 + P2);
        x = Policies.chain(P1 + P2, P3, P3);
        x.addMapping(0, 1, 3);
        x.addMapping(0, 2, 3);
        Policies.passes("two sources of one target", x, P1 + P2);
        x = Policies.chain(ANY, ANY + P1 + P2, P1 + P2);
        x.addMapping(0, 1, 1);
        x.addMapping(0, 1, 2);
        Policies.passes("named again while it is held", x, P1 + P2);
        x = Policies.chain(Policies.repeated(ALL, 8));
        for (int cert = 0; cert < 8; cert++) {
            for (int s = 1; s <= 15; s++) {
                for (int t = 1; t <= 15; t++) {
                    x.addMapping(cert, s, t);
                }
            }
        }
        Policies.passes("every pair at every certificate", x, ALL);
    }

    private static void emptyNodes() {
        for (int n = 1; n <= 8; n++) {
            for (int at = 0; at < n; at++) {
                int[] masks = Policies.repeated(P1, n);
                masks[at] = P2;
                CertPathCheck x = Policies.chain(masks);
                x.setInitial(ANY, EXPLICIT);
                if (n == 1) {
                    Policies.passes("one certificate", x, P2);
                } else {
                    Paths.fails("N gets empty", x, POLICY, Math.max(at, 1));
                }
                x.setInitial(ANY, 0);
                Policies.passes("N gets empty, E > 0", x, n == 1 ? P2 : 0);
            }
        }
        CertPathCheck x = Policies.chain(P1, P2, P2);
        x.setPolicyConstraints(0, 1, -1, -1);
        Paths.fails("E is 1 where N gets empty, 0 at the next", x, POLICY, 2);
        x.setPolicyConstraints(0, 0, -1, -1);
        Paths.fails("E is 0 where N gets empty", x, POLICY, 1);
        x = Policies.chain(P1, P1, P1);
        x.setPolicyConstraints(0, 0, -1, -1);
        Policies.passes("E is 0, N is not empty", x, P1);
    }

    private static void mappedPairs() {
        for (int s = 1; s <= 15; s++) {
            for (int t = 1; t <= 15; t++) {
                CertPathCheck x = Policies.chain(1 << s, 1 << t);
                x.addMapping(0, s, t);
                Policies.passes(s + " to " + t, x, 1 << s);
                x = Policies.chain(1 << s, 1 << s);
                x.addMapping(0, s, t);
                Policies.passes(s + " itself after its mapping to " + t, x, s == t ? 1 << s : 0);
            }
        }
        CertPathCheck x = Policies.chain(P1, P3);
        x.addMapping(0, 1, 2);
        x.addMapping(0, 1, 3);
        Policies.passes("two targets", x, P1);
        x = Policies.chain(P1 + P2, P3);
        x.addMapping(0, 1, 3);
        x.addMapping(0, 2, 3);
        Policies.passes("two sources", x, P1 + P2);
        x = Policies.chain(P1 + P2, P3);
        x.addMapping(0, 1, 2);
        x.addMapping(0, 2, 3);
        Policies.passes("one step a certificate", x, P2);
        x = Policies.chain(P1, P2, P3);
        x.addMapping(0, 1, 2);
        x.addMapping(1, 2, 3);
        Policies.passes("two certificates, two steps", x, P1);
        x = Policies.chain(P1 + P2, P1);
        x.addMapping(0, 1, 2);
        x.addMapping(0, 2, 1);
        Policies.passes("swapped, one left", x, P2);
        x = Policies.chain(P1, P2 + P3, P5);
        x.addMapping(0, 1, 2);
        x.addMapping(0, 1, 3);
        x.addMapping(1, 2, 5);
        x.addMapping(1, 3, 6);
        Policies.passes("one of two pairs of one d is mapped on", x, P1);
        for (int left = 1; left <= 2; left++) {
            x = Policies.chain(P1, P1, P2);
            x.setPolicyConstraints(0, -1, left, -1);
            x.addMapping(1, 1, 2);
            Policies.passes("P " + left, x, P1);
        }
    }

    private static void inhibitedMapping() {
        for (int s = 1; s <= 15; s++) {
            CertPathCheck x = Policies.chain(1 << s, ANY);
            x.addMapping(0, s, s);
            x.setInitial(ANY, NO_MAPPING);
            Policies.passes("a mapping of " + s + " to itself drops it", x, 0);
        }
        CertPathCheck x = Policies.chain(P1, P2);
        x.addMapping(0, 1, 2);
        x.setInitial(ANY, NO_MAPPING);
        Policies.passes("the target is not there", x, 0);
        x = Policies.chain(P1, P1);
        x.addMapping(0, 1, 2);
        x.setInitial(ANY, NO_MAPPING);
        Policies.passes("the source is gone all the same", x, 0);
        x = Policies.chain(P1, P1, P1 + P2);
        x.setPolicyConstraints(0, -1, 0, -1);
        x.addMapping(1, 1, 2);
        Policies.passes("P 0 by a constraint", x, 0);
        x.setInitial(ANY, EXPLICIT);
        Paths.fails("nothing is left for the next", x, POLICY, 2);
    }

    private static void unmappedPairs() {
        for (int flags = 0; flags <= NO_MAPPING; flags += NO_MAPPING) {
            CertPathCheck x = Policies.chain(P1 + P3, P1 + P3);
            x.addMapping(0, 1, 2);
            x.setInitial(ANY, flags);
            Policies.passes("a policy without mapping stays, flags " + flags, x, P3);
            x = Policies.chain(P1, P5);
            x.addMapping(0, 3, 5);
            x.setInitial(ANY, flags);
            Policies.passes("a mapping of a policy that is not there, flags " + flags, x, 0);
            x = Policies.chain(ANY, P5);
            x.setInitial(ANY, flags);
            Policies.passes("(0,0) stays, flags " + flags, x, P5);
        }
        CertPathCheck x = Policies.chain(ANY, P2);
        x.addMapping(0, 1, 2);
        x.setInitial(ANY, NO_MAPPING);
        Policies.passes("(0,0) stays beside a mapping, P 0", x, P2);
        x = Policies.chain(ANY + P1, P1);
        x.addMapping(0, 1, 2);
        x.setInitial(ANY, NO_MAPPING);
        Policies.passes("and names the dropped one again", x, P1);
    }
}

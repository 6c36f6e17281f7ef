import java.util.Arrays;

/** Promise 11, the policies: checks 4, 8 and 9 and the wrap-up. Masks are written as sums of bits. */
public final class PolicyChecksTest {
    private static final int ANY = 1;
    private static final int P1 = 1 << 1;
    private static final int P2 = 1 << 2;
    private static final int P3 = 1 << 3;
    private static final int P5 = 1 << 5;
    private static final int P15 = 1 << 15;
    private static final int ALL = 65535;
    private static final int POLICY = CertPathCheck.ERR_POLICY;
    private static final int EXPLICIT = CertPathCheck.INIT_EXPLICIT;
    private static final int NO_MAPPING = CertPathCheck.INIT_INHIBIT_MAPPING;
    private static final int NO_ANY = CertPathCheck.INIT_INHIBIT_ANY;

    public static void main(String[] args) {
        Due.sentence("E = 0 if INIT_EXPLICIT is set in the initial flags", PolicyChecksTest::explicitFromTheStart);
        Due.sentence("else n+1", PolicyChecksTest::freeFromTheStart);
        Due.sentence("P likewise, with INIT_INHIBIT_MAPPING", PolicyChecksTest::noMappingFromTheStart);
        Due.sentence("A likewise, with INIT_INHIBIT_ANY", PolicyChecksTest::noAnyFromTheStart);
        Due.sentence("starting as S = {(0,0)}", PolicyChecksTest::firstPairs);
        Due.sentence("anyOk = (bit 0 of C is set) and (A > 0 or (i is self-issued and not last))",
                PolicyChecksTest::anyOk);
        Due.sentence("if L != 0: (d, L) joins N when bit L of C is set or anyOk", PolicyChecksTest::namedPairs);
        Due.sentence("if L == 0: (p, p) joins N for each p in 1..15 with bit p of C set.",
                PolicyChecksTest::namedUnderAny);
        Due.sentence("If anyOk, (0, 0) joins N", PolicyChecksTest::anyStays);
        Due.sentence("when not last and P > 0, so does (p, p) for each p in 1..15 with T(p) != 0",
                PolicyChecksTest::mappedUnderAny);
        Due.sentence("N is a set: a pair that joins twice is there once.", PolicyChecksTest::joinsTwice);
        Due.sentence("ERR_POLICY if E == 0 and N is empty.", PolicyChecksTest::emptyNodes);
        Due.sentence("when P > 0, (d, t) for each t with bit t of T(v) set", PolicyChecksTest::mappedPairs);
        Due.sentence("when P == 0, nothing", PolicyChecksTest::inhibitedMapping);
        Due.sentence("otherwise: (d, v)", PolicyChecksTest::unmappedPairs);
        Due.sentence("If i is not self-issued, each of E, P and A that is > 0 decreases by 1.",
                PolicyChecksTest::countersFall);
        Due.sentence("Then E = requireExplicit(i) if that is >= 0 and < E", PolicyChecksTest::requireExplicitCounter);
        Due.sentence("P = inhibitMapping(i) likewise", PolicyChecksTest::inhibitMappingCounter);
        Due.sentence("A = inhibitAny(i) likewise", PolicyChecksTest::inhibitAnyCounter);
        Due.sentence("if E > 0, E = E - 1", PolicyChecksTest::lastCountdown);
        Due.sentence("if requireExplicit(n-1) == 0, E = 0", PolicyChecksTest::leafConstraints);
        Due.sentence("R = the mask of all d with some (d, v) in N (the leaf's N)", PolicyChecksTest::authoritySet);
        Due.sentence("F = R if bit 0 of U is set", PolicyChecksTest::userTakesAny);
        Due.sentence("else F = (R & U) | (U if bit 0 of R is set, else 0)", PolicyChecksTest::userTakesSome);
        Due.sentence("if E == 0 and F == 0: ERR_POLICY, fail index n-1, F = R = 0", PolicyChecksTest::nothingAccepted);
        Due.sentence("otherwise OK, fail index -1, with F and R kept", PolicyChecksTest::kept);
        Due.end();
    }

    /** A chain whose certificate at i has the policies of the mask masks[i]. */
    private static CertPathCheck chain(int... masks) {
        CertPathCheck x = Paths.chain(masks.length);
        for (int cert = 0; cert < masks.length; cert++) {
            addPolicies(x, cert, masks[cert]);
        }
        return x;
    }

    private static void addPolicies(CertPathCheck x, int cert, int mask) {
        for (int policy = 0; policy <= 15; policy++) {
            if ((mask >> policy & 1) != 0) {
                x.addPolicy(cert, policy);
            }
        }
    }

    private static int[] repeated(int mask, int n) {
        int[] masks = new int[n];
        Arrays.fill(masks, mask);
        return masks;
    }

    private static void authority(String what, CertPathCheck x, int mask) {
        Paths.passes(what, x, mask, mask);
    }

    /** Each of the three flags does its own work, whichever others are set. */
    private static void explicitFromTheStart() {
        for (int flags = 0; flags <= 7; flags++) {
            for (int n = 1; n <= 8; n++) {
                CertPathCheck x = Paths.chain(n);
                x.setInitial(ANY, flags);
                String what = "no policies in " + n + ", flags " + flags;
                if ((flags & EXPLICIT) != 0) {
                    Paths.fails(what, x, POLICY, 0);
                } else {
                    authority(what, x, 0);
                }
                x = chain(repeated(P15, n));
                x.setInitial(ANY, flags);
                authority("a policy in each of " + n + ", flags " + flags, x, P15);
            }
        }
    }

    private static void freeFromTheStart() {
        for (int n = 1; n <= 8; n++) {
            authority("no policies in " + n, Paths.chain(n), 0);
            authority("any-policy in " + n, chain(repeated(ANY, n)), ANY);
            CertPathCheck x = chain(repeated(P5, n));
            for (int cert = 0; cert < n; cert++) {
                x.addMapping(cert, 5, 5);
            }
            authority("mappings in " + n, x, P5);
        }
    }

    private static void noMappingFromTheStart() {
        for (int flags = 0; flags <= 7; flags++) {
            boolean mapping = (flags & NO_MAPPING) == 0;
            CertPathCheck x = chain(P1 + P3, P2 + P3);
            x.addMapping(0, 1, 2);
            x.setInitial(ANY, flags);
            authority("1 to 2, flags " + flags, x, mapping ? P1 + P3 : P3);
        }
    }

    private static void noAnyFromTheStart() {
        for (int flags = 0; flags <= 7; flags++) {
            boolean any = (flags & NO_ANY) == 0;
            CertPathCheck x = chain(ANY + P3, P2 + P3);
            x.setInitial(ANY, flags);
            authority("any-policy first, flags " + flags, x, any ? P2 + P3 : P3);
            x = chain(P2 + P3, ANY + P3);
            x.setInitial(ANY, flags);
            authority("any-policy last, flags " + flags, x, any ? P2 + P3 : P3);
        }
    }

    private static void firstPairs() {
        for (int policy = 0; policy <= 15; policy++) {
            authority("policy " + policy + " alone", chain(1 << policy), 1 << policy);
        }
        authority("none", chain(0), 0);
        authority("all", chain(ALL), ALL);

        // The pairs of an earlier path would name policy 1 for a leaf that only has policy 2.
        CertPathCheck x = chain(P1, P2);
        x.addMapping(0, 1, 2);
        authority("the earlier path", x, P1);
        x.removeLast();
        x.removeLast();
        Paths.append(x, 9);
        x.addPolicy(0, 2);
        authority("the later path", x, P2);
    }

    /** After position 0 A is left; position 1 keeps policy 3 by any-policy alone. */
    private static void anyOk() {
        for (int left = 0; left <= 2; left++) {
            for (int k = 0; k < 8; k++) {
                boolean bit = (k & 1) != 0;
                boolean selfIssued = (k & 2) != 0;
                boolean last = (k & 4) != 0;
                CertPathCheck x = chain(P3);
                x.setPolicyConstraints(0, -1, -1, left);
                Paths.append(x, selfIssued ? 2 : 9);
                Paths.policies(x, 1, bit ? 0 : 4);
                if (!last) {
                    Paths.append(x, 10);
                    Paths.policies(x, 2, 3);
                }
                boolean ok = bit && (left > 0 || selfIssued && !last);
                String what = "A " + left + ", bit " + bit + ", self-issued " + selfIssued + ", last " + last;
                authority(what, x, ok ? P3 : 0);
            }
        }
        CertPathCheck x = new CertPathCheck(8);
        x.setInitial(ANY, NO_ANY);
        Paths.appendSelfIssued(x);
        x.addPolicy(0, 0);
        authority("a self-issued leaf at position 0", x, 0);
        Paths.append(x, 5);
        x.addPolicy(1, 3);
        authority("no longer the leaf", x, P3);
    }

    private static void namedPairs() {
        for (int held = 1; held <= 15; held++) {
            for (int policy = 0; policy <= 15; policy++) {
                boolean joins = policy == held || policy == 0;
                authority(held + " under " + policy, chain(1 << held, 1 << policy), joins ? 1 << held : 0);
            }
            authority(held + " under all others", chain(1 << held, ALL - 1 - (1 << held)), 0);
            authority(held + " under none", chain(1 << held, 0), 0);
        }
        authority("two sets", chain(P1 + P2, P2 + P3), P2);
        authority("three sets", chain(P1 + P2 + P3, ANY, P3 + P5), P3);
        authority("a gap", chain(P1, 0, P1), 0);
        authority("nothing new joins a named set", chain(P1, ANY + P2, P1 + P2), P1);

        CertPathCheck x = chain(P1, P2 + P3, P2);
        x.addMapping(0, 1, 2);
        x.addMapping(0, 1, 3);
        authority("the first of two pairs of one d", x, P1);
        x = chain(P1, ANY);
        x.addMapping(0, 1, 2);
        authority("a mapped pair by any-policy", x, P1);
    }

    private static void namedUnderAny() {
        for (int policy = 1; policy <= 15; policy++) {
            authority(policy + " under any-policy", chain(ANY, 1 << policy), 1 << policy);
            authority("then again", chain(ANY, 1 << policy, 1 << policy), 1 << policy);
        }
        authority("all but any-policy", chain(ANY, ALL - 1), ALL - 1);
        authority("beside one that was named", chain(ANY + P1, P1 + P2), P1 + P2);
        authority("under any-policy of any-policy", chain(ANY, ANY, P15), P15);
    }

    private static void anyStays() {
        for (int n = 1; n <= 8; n++) {
            authority("any-policy " + n + " times", chain(repeated(ANY, n)), ANY);
            authority("all policies " + n + " times", chain(repeated(ALL, n)), ALL);
        }
        authority("beside a policy", chain(ANY + P1, ANY), ANY + P1);
        authority("gone after a certificate without it", chain(ANY, P1, ANY), P1);
        authority("gone after a certificate without policies", chain(ANY, 0, ANY), 0);
        CertPathCheck x = chain(ANY, ANY);
        x.setInitial(ANY, EXPLICIT + NO_ANY);
        Paths.fails("not while it is inhibited", x, POLICY, 0);
    }

    private static void mappedUnderAny() {
        for (int policy = 1; policy <= 15; policy++) {
            int other = policy % 15 + 1;
            CertPathCheck x = chain(ANY, 1 << other);
            x.addMapping(0, policy, other);
            authority(policy + " is opened", x, (1 << policy) + (1 << other));
            x = chain(ANY, ANY);
            x.addMapping(0, policy, other);
            authority(policy + " is opened beside any-policy", x, ANY + (1 << policy));
            x = chain(ANY, ANY);
            x.addMapping(1, policy, other);
            authority("not at the leaf", x, ANY);
            x = chain(ANY);
            x.addMapping(0, policy, other);
            authority("not at a leaf that is the first", x, ANY);
        }
        for (int left = 0; left <= 2; left++) {
            CertPathCheck x = chain(ANY, ANY, P2);
            x.setPolicyConstraints(0, -1, left, -1);
            x.addMapping(1, 1, 2);
            authority("opened with P " + left, x, left == 0 ? P2 : P1 + P2);
        }
        CertPathCheck x = chain(P3, P2);
        x.addMapping(0, 1, 2);
        authority("without any-policy nothing is opened", x, 0);
        x = chain(ANY + P3, P2 + P3);
        x.addMapping(0, 1, 2);
        x.setInitial(ANY, NO_ANY);
        authority("nor under an inhibited one", x, P3);
        x = chain(P1, ANY + P2, P2 + P3);
        x.addMapping(1, 2, 3);
        authority("nor once (0,0) is gone", x, 0);
    }

    private static void joinsTwice() {
        CertPathCheck x = chain(ANY + P1, P2);
        x.addMapping(0, 1, 2);
        authority("by its name and by its mapping", x, P1 + P2);
        x = chain(P1 + P2, P3, P3);
        x.addMapping(0, 1, 3);
        x.addMapping(0, 2, 3);
        authority("two sources of one target", x, P1 + P2);
        x = chain(ANY, ANY + P1 + P2, P1 + P2);
        x.addMapping(0, 1, 1);
        x.addMapping(0, 1, 2);
        authority("named again while it is held", x, P1 + P2);
        x = chain(repeated(ALL, 8));
        for (int cert = 0; cert < 8; cert++) {
            for (int s = 1; s <= 15; s++) {
                for (int t = 1; t <= 15; t++) {
                    x.addMapping(cert, s, t);
                }
            }
        }
        authority("every pair at every certificate", x, ALL);
    }

    private static void emptyNodes() {
        for (int n = 1; n <= 8; n++) {
            for (int at = 0; at < n; at++) {
                int[] masks = repeated(P1, n);
                masks[at] = P2;
                CertPathCheck x = chain(masks);
                x.setInitial(ANY, EXPLICIT);
                if (n == 1) {
                    authority("one certificate", x, P2);
                } else {
                    Paths.fails("N gets empty", x, POLICY, Math.max(at, 1));
                }
                x.setInitial(ANY, 0);
                authority("N gets empty, E > 0", x, n == 1 ? P2 : 0);
            }
        }
        CertPathCheck x = chain(P1, P2, P2);
        x.setPolicyConstraints(0, 1, -1, -1);
        Paths.fails("E is 1 where N gets empty, 0 at the next", x, POLICY, 2);
        x.setPolicyConstraints(0, 0, -1, -1);
        Paths.fails("E is 0 where N gets empty", x, POLICY, 1);
        x = chain(P1, P1, P1);
        x.setPolicyConstraints(0, 0, -1, -1);
        authority("E is 0, N is not empty", x, P1);
    }

    private static void mappedPairs() {
        for (int s = 1; s <= 15; s++) {
            for (int t = 1; t <= 15; t++) {
                CertPathCheck x = chain(1 << s, 1 << t);
                x.addMapping(0, s, t);
                authority(s + " to " + t, x, 1 << s);
                x = chain(1 << s, 1 << s);
                x.addMapping(0, s, t);
                authority(s + " itself after its mapping to " + t, x, s == t ? 1 << s : 0);
            }
        }
        CertPathCheck x = chain(P1, P3);
        x.addMapping(0, 1, 2);
        x.addMapping(0, 1, 3);
        authority("two targets", x, P1);
        x = chain(P1 + P2, P3);
        x.addMapping(0, 1, 3);
        x.addMapping(0, 2, 3);
        authority("two sources", x, P1 + P2);
        x = chain(P1 + P2, P3);
        x.addMapping(0, 1, 2);
        x.addMapping(0, 2, 3);
        authority("one step a certificate", x, P2);
        x = chain(P1, P2, P3);
        x.addMapping(0, 1, 2);
        x.addMapping(1, 2, 3);
        authority("two certificates, two steps", x, P1);
        x = chain(P1 + P2, P1);
        x.addMapping(0, 1, 2);
        x.addMapping(0, 2, 1);
        authority("swapped, one left", x, P2);
        x = chain(P1, P2 + P3, P5);
        x.addMapping(0, 1, 2);
        x.addMapping(0, 1, 3);
        x.addMapping(1, 2, 5);
        x.addMapping(1, 3, 6);
        authority("one of two pairs of one d is mapped on", x, P1);
        for (int left = 1; left <= 2; left++) {
            x = chain(P1, P1, P2);
            x.setPolicyConstraints(0, -1, left, -1);
            x.addMapping(1, 1, 2);
            authority("P " + left, x, P1);
        }
    }

    private static void inhibitedMapping() {
        for (int s = 1; s <= 15; s++) {
            CertPathCheck x = chain(1 << s, ANY);
            x.addMapping(0, s, s);
            x.setInitial(ANY, NO_MAPPING);
            authority("a mapping of " + s + " to itself drops it", x, 0);
        }
        CertPathCheck x = chain(P1, P2);
        x.addMapping(0, 1, 2);
        x.setInitial(ANY, NO_MAPPING);
        authority("the target is not there", x, 0);
        x = chain(P1, P1);
        x.addMapping(0, 1, 2);
        x.setInitial(ANY, NO_MAPPING);
        authority("the source is gone all the same", x, 0);
        x = chain(P1, P1, P1 + P2);
        x.setPolicyConstraints(0, -1, 0, -1);
        x.addMapping(1, 1, 2);
        authority("P 0 by a constraint", x, 0);
        x.setInitial(ANY, EXPLICIT);
        Paths.fails("nothing is left for the next", x, POLICY, 2);
    }

    private static void unmappedPairs() {
        for (int flags = 0; flags <= NO_MAPPING; flags += NO_MAPPING) {
            CertPathCheck x = chain(P1 + P3, P1 + P3);
            x.addMapping(0, 1, 2);
            x.setInitial(ANY, flags);
            authority("a policy without mapping stays, flags " + flags, x, P3);
            x = chain(P1, P5);
            x.addMapping(0, 3, 5);
            x.setInitial(ANY, flags);
            authority("a mapping of a policy that is not there, flags " + flags, x, 0);
            x = chain(ANY, P5);
            x.setInitial(ANY, flags);
            authority("(0,0) stays, flags " + flags, x, P5);
        }
        CertPathCheck x = chain(ANY, P2);
        x.addMapping(0, 1, 2);
        x.setInitial(ANY, NO_MAPPING);
        authority("(0,0) stays beside a mapping, P 0", x, P2);
        x = chain(ANY + P1, P1);
        x.addMapping(0, 1, 2);
        x.setInitial(ANY, NO_MAPPING);
        authority("and names the dropped one again", x, P1);
    }

    /** A constraint of 1 at position 0, three self-issued certificates, and three more; the leaf is at 6. */
    private static CertPathCheck withSelfIssued(int policies, int explicit, int mapping, int any) {
        CertPathCheck x = Paths.chain(1);
        x.setPolicyConstraints(0, explicit, mapping, any);
        Paths.appendSelfIssued(x);
        Paths.appendSelfIssued(x);
        Paths.appendSelfIssued(x);
        Paths.append(x, 9);
        Paths.append(x, 10);
        Paths.append(x, 11);
        for (int cert = 0; cert < 7; cert++) {
            addPolicies(x, cert, policies);
        }
        return x;
    }

    private static void countersFall() {
        Paths.fails("E over self-issued ones", withSelfIssued(0, 1, -1, -1), POLICY, 5);
        CertPathCheck x = withSelfIssued(ANY, -1, -1, 1);
        x.setInitial(ANY, EXPLICIT);
        Paths.fails("A over self-issued ones", x, POLICY, 5);
        x = withSelfIssued(P5, -1, 1, -1);
        x.setInitial(ANY, EXPLICIT);
        x.addMapping(3, 5, 5);
        x.addMapping(4, 5, 5);
        authority("P over self-issued ones, while one is left", x, P5);
        x.addMapping(5, 5, 5);
        Paths.fails("P over self-issued ones, when none is left", x, POLICY, 6);

        // Once at 0 each stays there, however many certificates follow.
        x = Paths.chain(8);
        Paths.policies(x, 0, 1);
        x.setInitial(ANY, EXPLICIT);
        Paths.fails("E stays 0", x, POLICY, 1);
        for (int without = 1; without < 8; without++) {
            int[] masks = repeated(P1, 8);
            masks[without] = 0;
            x = chain(masks);
            x.setPolicyConstraints(0, 0, -1, -1);
            Paths.fails("E stays 0 to " + without, x, POLICY, without);

            masks[without] = ANY;
            x = chain(masks);
            x.setPolicyConstraints(0, -1, -1, 0);
            authority("A stays 0 to " + without, x, 0);

            x = chain(repeated(P1, 8));
            x.setPolicyConstraints(0, -1, 0, -1);
            x.addMapping(without, 1, 1);
            authority("P stays 0 to " + without, x, without == 7 ? P1 : 0);
        }
    }

    /** Without policies, requireExplicit k fails k + 1 certificates on, or at the leaf by the wrap-up. */
    private static void requireExplicitCounter() {
        for (int n = 2; n <= 8; n++) {
            for (int at = 0; at < n - 1; at++) {
                for (int k = -1; k <= 15; k++) {
                    CertPathCheck x = Paths.chain(n);
                    x.setPolicyConstraints(at, k, -1, -1);
                    String what = "requireExplicit " + k + " at " + at + " of " + n;
                    if (k < 0 || at + k > n - 1) {
                        authority(what, x, 0);
                    } else {
                        Paths.fails(what, x, POLICY, Math.min(at + k + 1, n - 1));
                    }
                }
            }
        }
        CertPathCheck x = Paths.chain(5);
        x.setPolicyConstraints(0, 2, -1, -1);
        x.setPolicyConstraints(1, 15, -1, -1);
        Paths.fails("a greater number changes nothing", x, POLICY, 3);
        x.setPolicyConstraints(1, 0, -1, -1);
        Paths.fails("a smaller one does", x, POLICY, 2);
        x.setPolicyConstraints(0, 0, -1, -1);
        x.setPolicyConstraints(1, 15, -1, -1);
        Paths.fails("nothing is smaller than 0", x, POLICY, 1);
        x.setInitial(ANY, EXPLICIT);
        Paths.fails("0 from the start", x, POLICY, 0);

        x = Paths.chain(1);
        Paths.appendSelfIssued(x);
        x.setPolicyConstraints(1, 0, -1, -1);
        Paths.append(x, 9);
        Paths.fails("a self-issued certificate's constraint binds", x, POLICY, 2);
    }

    /** Each certificate maps 5 to 5: that keeps it while mapping is free and drops it once it is not. */
    private static void inhibitMappingCounter() {
        for (int n = 2; n <= 8; n++) {
            for (int at = 0; at < n - 1; at++) {
                for (int k = -1; k <= 15; k++) {
                    CertPathCheck x = chain(repeated(P5, n));
                    x.setInitial(ANY, EXPLICIT);
                    for (int cert = 0; cert < n; cert++) {
                        x.addMapping(cert, 5, 5);
                    }
                    x.setPolicyConstraints(at, -1, k, -1);
                    String what = "inhibitMapping " + k + " at " + at + " of " + n;
                    if (k < 0 || at + k + 2 > n - 1) {
                        authority(what, x, P5);
                    } else {
                        Paths.fails(what, x, POLICY, at + k + 2);
                    }
                }
            }
        }
        CertPathCheck x = chain(P5, P5, P5, P5);
        x.addMapping(2, 5, 5);
        x.setPolicyConstraints(0, -1, 0, -1);
        x.setPolicyConstraints(1, -1, 15, -1);
        authority("a greater number changes nothing", x, 0);
        x.setPolicyConstraints(0, -1, 15, -1);
        x.setPolicyConstraints(1, -1, 0, -1);
        authority("a smaller one does", x, 0);

        x = Paths.chain(1);
        Paths.appendSelfIssued(x);
        x.setPolicyConstraints(1, -1, 0, -1);
        Paths.append(x, 9);
        x.addMapping(2, 5, 5);
        Paths.append(x, 10);
        for (int cert = 0; cert < 4; cert++) {
            x.addPolicy(cert, 5);
        }
        authority("a self-issued certificate's constraint binds", x, 0);
    }

    private static void inhibitAnyCounter() {
        for (int n = 2; n <= 8; n++) {
            for (int at = 0; at < n - 1; at++) {
                for (int k = -1; k <= 15; k++) {
                    CertPathCheck x = chain(repeated(ANY, n));
                    x.setInitial(ANY, EXPLICIT);
                    x.setPolicyConstraints(at, -1, -1, k);
                    String what = "inhibitAny " + k + " at " + at + " of " + n;
                    if (k < 0 || at + k + 1 > n - 1) {
                        authority(what, x, ANY);
                    } else {
                        Paths.fails(what, x, POLICY, at + k + 1);
                    }
                }
            }
        }
        CertPathCheck x = chain(ANY, ANY, ANY, ANY);
        x.setPolicyConstraints(0, -1, -1, 1);
        x.setPolicyConstraints(1, -1, -1, 15);
        authority("a greater number changes nothing", x, 0);
        x.setPolicyConstraints(0, -1, -1, 15);
        x.setPolicyConstraints(1, -1, -1, 0);
        authority("a smaller one does", x, 0);

        x = Paths.chain(1);
        Paths.appendSelfIssued(x);
        x.setPolicyConstraints(1, -1, -1, 0);
        Paths.append(x, 9);
        for (int cert = 0; cert < 3; cert++) {
            x.addPolicy(cert, 0);
        }
        authority("a self-issued certificate's constraint binds", x, 0);
    }

    /** The path has no policies, so that it fails if E is 0 in the wrap-up. E is k at the leaf, 2 without a limit. */
    private static void lastCountdown() {
        for (int k = 0; k <= 2; k++) {
            for (int subject : new int[] {9, 2}) {
                CertPathCheck x = Paths.chain(1);
                x.setPolicyConstraints(0, k, -1, -1);
                Paths.append(x, subject);
                String what = "E is " + k + " at the leaf with subject " + subject;
                if (k <= 1) {
                    Paths.fails(what, x, POLICY, 1);
                } else {
                    authority(what, x, 0);
                }
            }
        }
    }

    private static void leafConstraints() {
        for (int n = 1; n <= 8; n++) {
            for (int k = -1; k <= 15; k++) {
                CertPathCheck x = Paths.chain(n);
                x.setPolicyConstraints(n - 1, k, 0, 0);
                if (k == 0) {
                    Paths.fails("the leaf's requireExplicit 0", x, POLICY, n - 1);
                } else {
                    authority("the leaf's requireExplicit " + k, x, 0);
                }
            }
        }
        CertPathCheck x = chain(P3, P3);
        x.setPolicyConstraints(1, 0, -1, -1);
        authority("0, but a policy is there", x, P3);
        x.setInitial(P2, 0);
        Paths.fails("0, and no user policy is there", x, POLICY, 1);
        x = chain(ANY, ANY);
        x.setPolicyConstraints(1, -1, 0, 0);
        authority("the leaf's other constraints are not used", x, ANY);
    }

    private static void authoritySet() {
        CertPathCheck x = chain(P1, P2);
        x.addMapping(0, 1, 2);
        authority("d, not v", x, P1);
        x = chain(P1, P2 + P3);
        x.addMapping(0, 1, 2);
        x.addMapping(0, 1, 3);
        authority("one d of two pairs", x, P1);
        x = chain(P1 + P15, P2);
        x.addMapping(0, 1, 2);
        x.addMapping(0, 15, 2);
        authority("two d of one v", x, P1 + P15);
        authority("d = 0", chain(ANY, ANY), ANY);
        authority("no pair", chain(P1, P2), 0);
        authority("the leaf's N, not the one before", chain(P1 + P2, P2), P2);
        authority("all d", chain(ALL, ALL), ALL);
    }

    /** The leaf alone, so that R is its policies. */
    private static void accepted(int user, int leaf, int due) {
        for (int flags = 0; flags <= EXPLICIT; flags++) {
            CertPathCheck x = chain(leaf);
            x.setInitial(user, flags);
            String what = "U " + user + ", R " + leaf + ", flags " + flags;
            if (flags == EXPLICIT && due == 0) {
                Paths.fails(what, x, POLICY, 0);
            } else {
                Paths.passes(what, x, due, leaf);
            }
        }
    }

    private static final int[] SETS = {0, ANY, P3, P5, P15, P3 + P5, ANY + P3, ANY + P5, ANY + P3 + P5, ALL, ALL - 1};

    private static void userTakesAny() {
        for (int authority : SETS) {
            accepted(ANY, authority, authority);
            accepted(ANY + P5, authority, authority);
            accepted(ANY + P1 + P3, authority, authority);
            accepted(ALL, authority, authority);
        }
    }

    private static void userTakesSome() {
        accepted(P3, P3, P3);
        accepted(P5, P3, 0);
        accepted(P3 + P5, P3 + P2, P3);
        accepted(P3 + P5, ANY, P3 + P5);
        accepted(P5, ANY + P3, P5);
        accepted(P3 + P5, ANY + P3, P3 + P5);
        accepted(0, P3, 0);
        accepted(0, ANY, 0);
        accepted(0, ALL, 0);
        accepted(0, 0, 0);
        accepted(P3, 0, 0);
        accepted(P15, ALL, P15);
        accepted(ALL - 1, ANY, ALL - 1);
        accepted(ALL - 1, ALL, ALL - 1);
        accepted(ALL - 1, P15, P15);
        for (int user : SETS) {
            for (int authority : SETS) {
                if ((user & ANY) == 0) {
                    accepted(user, authority, (authority & ANY) != 0 ? user : user & authority);
                }
            }
        }
    }

    private static void nothingAccepted() {
        for (int n = 1; n <= 8; n++) {
            CertPathCheck x = chain(repeated(P3, n));
            x.setInitial(P2, EXPLICIT);
            Paths.fails("E is 0 from the start, F is empty", x, POLICY, n - 1);
            x.setInitial(0, EXPLICIT);
            Paths.fails("U is empty", x, POLICY, n - 1);
            x.setInitial(P2, 0);
            x.setPolicyConstraints(n - 1, 0, -1, -1);
            Paths.fails("E is 0 by the leaf, F is empty", x, POLICY, n - 1);
        }
        CertPathCheck x = chain(ANY);
        x.setInitial(0, EXPLICIT);
        Paths.fails("any-policy, but U is empty", x, POLICY, 0);
    }

    private static void kept() {
        for (int n = 1; n <= 8; n++) {
            CertPathCheck x = chain(repeated(P3 + P5, n));
            x.setInitial(P2, 0);
            Paths.passes("E > 0, F is empty", x, 0, P3 + P5);
            x.setInitial(P2 + P3, EXPLICIT);
            Paths.passes("E is 0, F is not empty", x, P3, P3 + P5);
            x.setInitial(P2 + P3, 0);
            Paths.passes("neither", x, P3, P3 + P5);
            authority("both, of a path without policies, E > 0", Paths.chain(n), 0);
        }
    }
}

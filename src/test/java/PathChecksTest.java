import java.util.Map;

/** Promise 11, all but the policies: checks 1, 2, 3, 5, 6 and 7, and what validate leaves alone. */
public final class PathChecksTest {
    private static final int PERMITTED = CertPathCheck.PERMITTED;
    private static final int EXCLUDED = CertPathCheck.EXCLUDED;
    private static final int CA = CertPathCheck.BASIC_CA;
    private static final int OK = CertPathCheck.OK;

    public static void main(String[] args) {
        Due.sentence("for every int time", PathChecksTest::everyTime);
        Due.sentence("It answers the status, which also becomes the last result's status", PathChecksTest::statuses);
        Due.sentence("It changes nothing but the last result", PathChecksTest::changesOnlyTheResult);
        Due.sentence("calling it again with the same time and no accepted changes in between gives the same result",
                PathChecksTest::again);
        Due.sentence("If count == 0: the status is ERR_EMPTY, fail index -1, F = R = 0.", PathChecksTest::emptyPath);
        Due.sentence("ERR_VALIDITY unless notBefore(i) <= time <= notAfter(i)", PathChecksTest::validityTimes);
        Due.sentence("(signed int compare)", PathChecksTest::signedCompare);
        Due.sentence("ERR_ISSUER unless issuer(i) == anchor (when i == 0)", PathChecksTest::firstIssuer);
        Due.sentence("or issuer(i) == subject(i-1) (when i > 0)", PathChecksTest::laterIssuers);
        Due.sentence("This check is skipped when i is self-issued and not last.", PathChecksTest::selfIssuedNames);
        Due.sentence("for some j < i", PathChecksTest::subtreesReachDownThePathOnly);
        Due.sentence("j has at least one permitted subtree and subject(i) lies in none of them",
                PathChecksTest::permittedSubtrees);
        Due.sentence("or subject(i) lies in some excluded subtree of j", PathChecksTest::excludedSubtrees);
        Due.sentence("If last, go to the wrap-up.", PathChecksTest::leafNeedNotIssue);
        Due.sentence("ERR_CA unless BASIC_CA is set in basic(i).", PathChecksTest::basicConstraints);
        Due.sentence("M = n", PathChecksTest::lengthFree);
        Due.sentence("ERR_PATH_LENGTH if i is not self-issued and M == 0.", PathChecksTest::noneLeft);
        Due.sentence("Then, if i is not self-issued, M = M - 1.", PathChecksTest::lengthCounts);
        Due.sentence("Then, if pathLen(i) >= 0 and pathLen(i) < M, M = pathLen(i).", PathChecksTest::pathLengths);
        Due.sentence("ERR_KEY_USAGE if BASIC_KEY_USAGE is set in basic(i) and BASIC_KEY_CERT_SIGN is not.",
                PathChecksTest::keyUsage);
        Due.sentence("the number of non-self-issued certificates strictly between i and the leaf is at most pathLen(i)",
                PathChecksTest::lengthsOverEveryMixture);
        Due.sentence("for all j < i where i is the leaf or not self-issued, subject(i) lies in some permitted subtree "
                + "of j when j has any, and in no excluded subtree of j", PathChecksTest::namesOverEveryMixture);
        Due.end();
    }

    private static void everyTime() {
        CertPathCheck x = new CertPathCheck(1);
        x.addCert(0, 1, Calls.LEAST, Calls.GREATEST);
        for (int shift = 0; shift < 32; shift++) {
            for (int off = -1; off <= 1; off++) {
                int time = (1 << shift) + off;
                Paths.validatesAt("time " + time, x, time, OK, -1, 0, 0);
            }
        }
        Paths.validatesAt("the least", x, Calls.LEAST, OK, -1, 0, 0);
        Paths.validatesAt("the greatest", x, Calls.GREATEST, OK, -1, 0, 0);
    }

    private static void statuses() {
        for (int status = 0; status <= CertPathCheck.ERR_KEY_USAGE; status++) {
            CertPathCheck x = Faulty.with(status, 2, 4, 8);
            Due.same("answer", x.validate(Paths.TIME), status);
            Due.same("last status", x.getField(-1, CertPathCheck.G_STATUS), status);
        }
    }

    private static void changesOnlyTheResult() {
        for (int status = 0; status <= CertPathCheck.ERR_KEY_USAGE; status++) {
            CertPathCheck x = Faulty.with(status, 2, 4, 8);
            for (int cert = 0; cert < 4; cert++) {
                x.addMapping(cert, 1 + cert, 2);
                x.addSubtree(cert, EXCLUDED, 0xF);
                x.addSubtree(cert, PERMITTED, 0);
            }
            x.setPolicyConstraints(1, 0, 1, 2);
            Map<String, Integer> before = Reading.stored(Reading.of(x));
            x.validate(Paths.TIME);
            Due.changed("validate, status " + status, before, Reading.stored(Reading.of(x)));
        }
    }

    private static void again() {
        for (int status = 0; status <= CertPathCheck.ERR_KEY_USAGE; status++) {
            CertPathCheck x = Faulty.with(status, 2, 4, 4);
            Faulty.isAsBuilt("first", x, status, 2);
            Map<String, Integer> first = Reading.of(x);
            x.validate(Paths.TIME);
            Due.changed("at once", first, Reading.of(x));
            x.validate(-1);
            x.validate(Paths.TIME);
            Due.changed("after another time", first, Reading.of(x));
            x.setAnchor(-1);
            x.setBasic(4, 0, 0);
            x.addPolicy(0, 16);
            x.addSubtree(0, 2, 0);
            x.validate(Paths.TIME);
            Due.changed("after refused calls", first, Reading.of(x));
        }
        // What the first walk leaves in its working values would give the second one another R.
        CertPathCheck x = Paths.chain(3);
        Paths.policies(x, 0, 1);
        x.addMapping(0, 1, 2);
        Paths.policies(x, 1, 2);
        x.addMapping(1, 2, 3);
        Paths.policies(x, 2, 3);
        x.setPolicyConstraints(1, 0, 0, 0);
        for (int k = 0; k < 3; k++) {
            Paths.passes("a path of mappings", x, 2, 2);
        }
    }

    private static void emptyPath() {
        for (int flags = 0; flags <= 7; flags++) {
            for (int time : new int[] {Calls.LEAST, -1, 0, Paths.TIME, Calls.GREATEST}) {
                CertPathCheck x = new CertPathCheck(8);
                x.setInitial(0, flags);
                Paths.validatesAt("no certificates", x, time, CertPathCheck.ERR_EMPTY, -1, 0, 0);
            }
        }
        CertPathCheck x = Paths.policied(1);
        Paths.passes("one certificate", x, 8, 8 + 32);
        x.removeLast();
        Paths.fails("none after OK", x, CertPathCheck.ERR_EMPTY, -1);
        Paths.append(x, 2);
        Paths.validatesAt("one again", x, 101, CertPathCheck.ERR_VALIDITY, 0, 0, 0);
        x.removeLast();
        Paths.fails("none after a failure", x, CertPathCheck.ERR_EMPTY, -1);
    }

    private static void validityTimes() {
        for (int at = 0; at < 3; at++) {
            CertPathCheck x = new CertPathCheck(8);
            x.setAnchor(Paths.ANCHOR);
            for (int i = 0; i < 3; i++) {
                x.addCert(i + 1, i + 2, i == at ? -10 : Calls.LEAST, i == at ? 10 : Calls.GREATEST);
                x.setBasic(i, CA, -1);
            }
            int late = CertPathCheck.ERR_VALIDITY;
            Paths.validatesAt("at notBefore", x, -10, OK, -1, 0, 0);
            Paths.validatesAt("at notAfter", x, 10, OK, -1, 0, 0);
            Paths.validatesAt("before", x, -11, late, at, 0, 0);
            Paths.validatesAt("after", x, 11, late, at, 0, 0);
        }
        CertPathCheck x = new CertPathCheck(1);
        x.addCert(0, 1, 5, 5);
        Paths.validatesAt("the one time", x, 5, OK, -1, 0, 0);
        Paths.validatesAt("before the one time", x, 4, CertPathCheck.ERR_VALIDITY, 0, 0, 0);
        Paths.validatesAt("after the one time", x, 6, CertPathCheck.ERR_VALIDITY, 0, 0, 0);
        x.removeLast();
        x.addCert(0, 1, 5, 4);
        for (int time = 3; time <= 6; time++) {
            Paths.validatesAt("notBefore after notAfter", x, time, CertPathCheck.ERR_VALIDITY, 0, 0, 0);
        }
    }

    private static void signedCompare() {
        int[] times = {Calls.LEAST, Calls.LEAST + 1, -2, -1, 0, 1, 2, Calls.GREATEST - 1, Calls.GREATEST};
        for (int from = 0; from < times.length; from++) {
            for (int to = 0; to < times.length; to++) {
                CertPathCheck x = new CertPathCheck(1);
                x.addCert(0, 1, times[from], times[to]);
                for (int at = 0; at < times.length; at++) {
                    boolean within = from <= at && at <= to;
                    String what = times[at] + " in " + times[from] + ".." + times[to];
                    int status = within ? OK : CertPathCheck.ERR_VALIDITY;
                    Paths.validatesAt(what, x, times[at], status, within ? -1 : 0, 0, 0);
                }
            }
        }
    }

    private static void firstIssuer() {
        int[] names = {0, 0x1, 0x2, 0xF, 0x11, 0x21, 0x12, 0x321, 0x4321, 0xFFFF};
        for (int anchor : names) {
            for (int issuer : names) {
                CertPathCheck x = new CertPathCheck(1);
                x.setAnchor(anchor);
                x.addCert(issuer, 0x3, 0, 100);
                int status = anchor == issuer ? OK : CertPathCheck.ERR_ISSUER;
                Paths.validates("issuer " + issuer + ", anchor " + anchor, x, status, anchor == issuer ? -1 : 0, 0, 0);
            }
        }
    }

    private static void laterIssuers() {
        int[] names = {0, 0x1, 0x2, 0xF, 0x11, 0x21, 0x12, 0x321, 0x4321, 0xFFFF};
        for (int at = 1; at < 4; at++) {
            for (int subject : names) {
                for (int issuer : names) {
                    CertPathCheck x = Paths.chain(at - 1);
                    x.setBasic(at - 2, CA, -1);
                    x.addCert(at, subject, 0, 100);
                    x.setBasic(at - 1, CA, -1);
                    x.addCert(issuer, 0x9, 0, 100);
                    int status = subject == issuer ? OK : CertPathCheck.ERR_ISSUER;
                    String what = "issuer " + issuer + ", subject before it " + subject;
                    Paths.validates(what, x, status, subject == issuer ? -1 : at, 0, 0);
                }
            }
        }
        CertPathCheck x = Paths.chain(3);
        x.removeLast();
        x.addCert(Paths.ANCHOR, 0x9, 0, 100);
        Paths.fails("the anchor issues the first only", x, CertPathCheck.ERR_ISSUER, 2);
    }

    private static int nameStatus(int kind, int subject, int... subtrees) {
        CertPathCheck x = Paths.chain(1);
        for (int subtree : subtrees) {
            x.addSubtree(0, kind, subtree);
        }
        Paths.append(x, subject);
        int status = x.validate(Paths.TIME);
        Due.same("fail index", x.getFailIndex(), status == OK ? -1 : 1);
        return status;
    }

    private static void permittedSubtrees() {
        int bad = CertPathCheck.ERR_NAME;
        Due.same("none given", nameStatus(PERMITTED, 0x45), OK);
        Due.same("the only one", nameStatus(PERMITTED, 0x54, 4), OK);
        Due.same("not the only one", nameStatus(PERMITTED, 0x54, 5), bad);
        for (int lies = 0; lies < 4; lies++) {
            int[] subtrees = {0xA, 0xB, 0xC, 0xD};
            Due.same("none of four", nameStatus(PERMITTED, 0x54, subtrees), bad);
            subtrees[lies] = 0x4;
            Due.same("in one of four", nameStatus(PERMITTED, 0x54, subtrees), OK);
        }
        Due.same("the empty name in none", nameStatus(PERMITTED, 0, 1, 2, 3, 4), bad);
        Due.same("the empty name in the empty subtree", nameStatus(PERMITTED, 0, 1, 0), OK);

        // Every certificate before has its say: two permitted sets are both asked.
        CertPathCheck x = new CertPathCheck(8);
        Paths.append(x, 0x1);
        x.addSubtree(0, PERMITTED, 0x1);
        Paths.append(x, 0x11);
        x.addSubtree(1, PERMITTED, 0x2);
        Paths.append(x, 0x111);
        Paths.fails("in one permitted set of two", x, CertPathCheck.ERR_NAME, 2);
        x.addSubtree(1, PERMITTED, 0x11);
        Paths.passes("in both permitted sets", x, 0, 0);
    }

    private static void excludedSubtrees() {
        int bad = CertPathCheck.ERR_NAME;
        Due.same("none given", nameStatus(EXCLUDED, 0x45), OK);
        Due.same("the only one", nameStatus(EXCLUDED, 0x54, 4), bad);
        Due.same("not the only one", nameStatus(EXCLUDED, 0x54, 5), OK);
        for (int lies = 0; lies < 4; lies++) {
            int[] subtrees = {0xA, 0xB, 0xC, 0xD};
            Due.same("none of four", nameStatus(EXCLUDED, 0x54, subtrees), OK);
            subtrees[lies] = 0x4;
            Due.same("in one of four", nameStatus(EXCLUDED, 0x54, subtrees), bad);
        }
        Due.same("the empty name in none", nameStatus(EXCLUDED, 0, 1, 2, 3, 4), OK);
        Due.same("the empty name in the empty subtree", nameStatus(EXCLUDED, 0, 1, 0), bad);

        CertPathCheck x = Paths.chain(1);
        x.addSubtree(0, PERMITTED, 0x1);
        x.addSubtree(0, EXCLUDED, 0x21);
        Paths.append(x, 0x321);
        Paths.fails("permitted and excluded", x, CertPathCheck.ERR_NAME, 1);
        x.removeLast();
        Paths.append(x, 0x31);
        Paths.passes("permitted and not excluded", x, 0, 0);
        x.removeLast();
        Paths.append(x, 0x5);
        Paths.fails("neither", x, CertPathCheck.ERR_NAME, 1);
    }

    private static void subtreesReachDownThePathOnly() {
        for (int n = 1; n <= 8; n++) {
            for (int holder = 0; holder < n; holder++) {
                for (int subject = 0; subject < n; subject++) {
                    CertPathCheck x = Paths.chain(n);
                    x.addSubtree(holder, EXCLUDED, subject + 2);
                    String what = "subject " + subject + " excluded by " + holder + " of " + n;
                    if (holder < subject) {
                        Paths.fails(what, x, CertPathCheck.ERR_NAME, subject);
                    } else {
                        Paths.passes(what, x, 0, 0);
                    }
                }
                CertPathCheck x = Paths.chain(n);
                x.addSubtree(holder, PERMITTED, 0xF);
                if (holder < n - 1) {
                    Paths.fails("permitted by " + holder, x, CertPathCheck.ERR_NAME, holder + 1);
                } else {
                    Paths.passes("the leaf's own subtrees", x, 0, 0);
                }
            }
        }
    }

    private static void selfIssuedNames() {
        for (int kind = 0; kind <= 1; kind++) {
            CertPathCheck x = Paths.chain(1);
            x.addSubtree(0, kind, kind == PERMITTED ? 0x9 : 0x2);
            Paths.appendSelfIssued(x);
            Paths.fails("a self-issued leaf is checked", x, CertPathCheck.ERR_NAME, 1);
            Paths.append(x, 0x9);
            Paths.passes("a self-issued certificate before the leaf is not", x, 0, 0);

            x = Paths.chain(1);
            Paths.appendSelfIssued(x);
            x.addSubtree(1, kind, kind == PERMITTED ? 0x9 : 0x3);
            Paths.append(x, 0x3);
            Paths.fails("but its own subtrees bind", x, CertPathCheck.ERR_NAME, 2);
        }
    }

    private static void leafNeedNotIssue() {
        for (int n = 1; n <= 8; n++) {
            for (int flags = 0; flags <= 7; flags++) {
                for (int pathLen = -1; pathLen <= 15; pathLen += 4) {
                    CertPathCheck x = Paths.chain(n);
                    x.setBasic(n - 2, CA, 0);
                    x.setBasic(n - 1, flags, pathLen);
                    Paths.passes("the leaf's basic " + flags + ", pathLen " + pathLen, x, 0, 0);
                }
            }
        }
    }

    private static void basicConstraints() {
        for (int flags = 0; flags <= 7; flags++) {
            for (int at = 0; at < 7; at++) {
                CertPathCheck x = Paths.chain(8);
                x.setBasic(at, flags, -1);
                x.validate(Paths.TIME);
                boolean without = (flags & CA) == 0;
                Due.yes("basic " + flags, without == (x.getField(-1, CertPathCheck.G_STATUS) == CertPathCheck.ERR_CA));
                Due.yes("fail index", !without || x.getFailIndex() == at);
            }
        }
        CertPathCheck x = new CertPathCheck(8);
        x.addCert(0, 0, 0, 100);
        x.addCert(0, 1, 0, 100);
        Paths.fails("a self-issued certificate needs the CA flag", x, CertPathCheck.ERR_CA, 0);
    }

    private static void keyUsage() {
        int bad = CertPathCheck.ERR_KEY_USAGE;
        int noCa = CertPathCheck.ERR_CA;
        int[] due = {noCa, OK, noCa, bad, noCa, OK, noCa, OK};
        for (int flags = 0; flags <= 7; flags++) {
            for (int at = 0; at < 7; at++) {
                CertPathCheck x = Paths.chain(8);
                x.setBasic(at, flags, -1);
                Paths.validates("basic " + flags + " at " + at, x, due[flags], due[flags] == OK ? -1 : at, 0, 0);
            }
        }
        CertPathCheck x = Paths.chain(1);
        Paths.appendSelfIssued(x);
        Paths.append(x, 9);
        x.setBasic(1, 3, -1);
        Paths.fails("a self-issued certificate's key usage", x, bad, 1);
    }

    private static void lengthFree() {
        for (int n = 1; n <= 8; n++) {
            Paths.passes("chain of " + n + " without path lengths", Paths.chain(n), 0, 0);
            CertPathCheck x = Paths.chain(n);
            x.setBasic(0, CA, 15);
            Paths.passes("chain of " + n + " with a great one", x, 0, 0);
        }
    }

    private static void noneLeft() {
        CertPathCheck x = Paths.chain(1);
        x.setBasic(0, CA, 0);
        Paths.append(x, 9);
        Paths.passes("length 0, then the leaf", x, 0, 0);
        Paths.append(x, 10);
        Paths.fails("length 0, then another before the leaf", x, CertPathCheck.ERR_PATH_LENGTH, 1);
        x.setBasic(0, CA, 1);
        Paths.passes("length 1, then another before the leaf", x, 0, 0);

        x = Paths.chain(1);
        x.setBasic(0, CA, 0);
        for (int k = 0; k < 6; k++) {
            Paths.appendSelfIssued(x);
            Paths.passes("length 0, then self-issued ones", x, 0, 0);
        }
        Paths.append(x, 9);
        Paths.passes("length 0, then six self-issued, then the leaf", x, 0, 0);
        x.removeLast();
        x.removeLast();
        Paths.append(x, 9);
        Paths.append(x, 10);
        Paths.fails("one more that is not self-issued", x, CertPathCheck.ERR_PATH_LENGTH, 6);
    }

    private static void lengthCounts() {
        for (int pathLen = 0; pathLen <= 6; pathLen++) {
            CertPathCheck x = Paths.chain(8);
            x.setBasic(0, CA, pathLen);
            if (pathLen == 6) {
                Paths.passes("length 6 for six", x, 0, 0);
            } else {
                Paths.fails("length " + pathLen, x, CertPathCheck.ERR_PATH_LENGTH, pathLen + 1);
            }
        }
        CertPathCheck x = Paths.chain(1);
        x.setBasic(0, CA, 1);
        Paths.appendSelfIssued(x);
        Paths.appendSelfIssued(x);
        Paths.append(x, 9);
        Paths.append(x, 10);
        Paths.passes("self-issued ones do not count", x, 0, 0);
        Paths.append(x, 11);
        Paths.fails("the others do", x, CertPathCheck.ERR_PATH_LENGTH, 4);
    }

    /** One path length in a chain without self-issued certificates: it counts those between it and the leaf. */
    private static void pathLengths() {
        for (int n = 1; n <= 8; n++) {
            for (int at = 0; at < n; at++) {
                for (int pathLen = -1; pathLen <= 15; pathLen++) {
                    CertPathCheck x = Paths.chain(n);
                    x.setBasic(at, CA, pathLen);
                    int between = n - 2 - at;
                    String what = "pathLen " + pathLen + " at " + at + " of " + n;
                    if (pathLen < 0 || at == n - 1 || between <= pathLen) {
                        Paths.passes(what, x, 0, 0);
                    } else {
                        Paths.fails(what, x, CertPathCheck.ERR_PATH_LENGTH, at + 1 + pathLen);
                    }
                }
            }
        }
        CertPathCheck x = Paths.chain(5);
        x.setBasic(0, CA, 2);
        x.setBasic(1, CA, 15);
        Paths.fails("a later length can't widen", x, CertPathCheck.ERR_PATH_LENGTH, 3);
        x.setBasic(0, CA, 3);
        Paths.passes("wide enough", x, 0, 0);
        x.setBasic(1, CA, 1);
        Paths.fails("a later length narrows", x, CertPathCheck.ERR_PATH_LENGTH, 3);

        x = Paths.chain(1);
        Paths.appendSelfIssued(x);
        x.setBasic(1, CA, 0);
        Paths.append(x, 9);
        Paths.append(x, 10);
        Paths.fails("a self-issued certificate's length binds", x, CertPathCheck.ERR_PATH_LENGTH, 2);
    }

    /** A path of n in which the certificates of the mask are self-issued. */
    private static CertPathCheck mixture(int n, int selfIssued) {
        CertPathCheck x = Paths.chain(0);
        for (int i = 0; i < n; i++) {
            if ((selfIssued >> i & 1) != 0) {
                Paths.appendSelfIssued(x);
            } else {
                Paths.append(x, i + 2);
            }
        }
        return x;
    }

    private static void lengthsOverEveryMixture() {
        int n = 6;
        for (int selfIssued = 0; selfIssued < 1 << n; selfIssued++) {
            for (int at = 0; at < n - 1; at++) {
                int between = n - 2 - at - Integer.bitCount(selfIssued >> at + 1 & (1 << n - 2 - at) - 1);
                for (int pathLen = -1; pathLen <= n; pathLen++) {
                    CertPathCheck x = mixture(n, selfIssued);
                    x.setBasic(at, CA, pathLen);
                    boolean holds = pathLen < 0 || between <= pathLen;
                    String what = "pathLen " + pathLen + " at " + at + ", self-issued " + selfIssued;
                    Due.same(what, x.validate(Paths.TIME), holds ? OK : CertPathCheck.ERR_PATH_LENGTH);
                }
            }
        }
    }

    private static void namesOverEveryMixture() {
        int n = 5;
        for (int selfIssued = 0; selfIssued < 1 << n; selfIssued++) {
            for (int j = 0; j < n; j++) {
                for (int excluded = 1; excluded <= n + 1; excluded++) {
                    CertPathCheck x = mixture(n, selfIssued);
                    x.addSubtree(j, EXCLUDED, excluded);
                    int due = -1;
                    for (int i = n - 1; i > j; i--) {
                        boolean looked = i == n - 1 || (selfIssued >> i & 1) == 0;
                        due = looked && x.getField(i, CertPathCheck.F_SUBJECT) == excluded ? i : due;
                    }
                    int status = due == -1 ? OK : CertPathCheck.ERR_NAME;
                    String what = excluded + " excluded by " + j + ", self-issued " + selfIssued;
                    Paths.validates(what, x, status, due, 0, 0);
                }
                CertPathCheck x = mixture(n, selfIssued);
                x.addSubtree(j, PERMITTED, 0xF);
                int due = -1;
                for (int i = n - 1; i > j; i--) {
                    due = i == n - 1 || (selfIssued >> i & 1) == 0 ? i : due;
                }
                int status = due == -1 ? OK : CertPathCheck.ERR_NAME;
                Paths.validates("none permitted by " + j + ", self-issued " + selfIssued, x, status, due, 0, 0);
            }
        }
    }
}

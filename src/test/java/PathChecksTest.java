import java.util.Map;

/** Promise 11, all but the policies: checks 1, 2, 3, 5, 6 and 7, their order, and what validate leaves alone. */
public final class PathChecksTest {
    private static final int PERMITTED = CertPathCheck.PERMITTED;
    private static final int EXCLUDED = CertPathCheck.EXCLUDED;

    public static void main(String[] args) {
        emptyPath();
        plainPaths();
        validityTimes();
        issuerChaining();
        permittedSubtrees();
        excludedSubtrees();
        subtreesReachDownThePathOnly();
        selfIssuedNames();
        basicConstraints();
        keyUsage();
        pathLengths();
        selfIssuedDoNotCount();
        orderWithinAPosition();
        orderOfPositions();
        validateChangesOnlyTheResult();
        Due.end();
    }

    private static void emptyPath() {
        CertPathCheck x = new CertPathCheck(8);
        x.setInitial(0, 7);
        Paths.fails("no certificates", x, CertPathCheck.ERR_EMPTY, -1);
        x.addCert(0, 1, 0, 100);
        Paths.fails("explicit policy, none there", x, CertPathCheck.ERR_POLICY, 0);
        x.removeLast();
        Paths.fails("no certificates again", x, CertPathCheck.ERR_EMPTY, -1);
    }

    private static void plainPaths() {
        for (int n = 1; n <= 8; n++) {
            Paths.passes("chain of " + n, Paths.chain(n), 0, 0);
        }
    }

    private static void validityTimes() {
        for (int at = 0; at < 3; at++) {
            CertPathCheck x = new CertPathCheck(8);
            x.setAnchor(Paths.ANCHOR);
            for (int i = 0; i < 3; i++) {
                x.addCert(i + 1, i + 2, i == at ? -10 : Integer.MIN_VALUE, i == at ? 10 : Integer.MAX_VALUE);
                x.setBasic(i, CertPathCheck.BASIC_CA, -1);
            }
            int late = CertPathCheck.ERR_VALIDITY;
            Paths.validatesAt("at notBefore", x, -10, CertPathCheck.OK, -1, 0, 0);
            Paths.validatesAt("at notAfter", x, 10, CertPathCheck.OK, -1, 0, 0);
            Paths.validatesAt("before", x, -11, late, at, 0, 0);
            Paths.validatesAt("after", x, 11, late, at, 0, 0);
            Paths.validatesAt("least time", x, Integer.MIN_VALUE, late, at, 0, 0);
            Paths.validatesAt("greatest time", x, Integer.MAX_VALUE, late, at, 0, 0);
        }
        CertPathCheck x = new CertPathCheck(1);
        x.addCert(0, 1, 5, 4);
        for (int time = 3; time <= 6; time++) {
            Paths.validatesAt("notBefore after notAfter", x, time, CertPathCheck.ERR_VALIDITY, 0, 0, 0);
        }
        x.removeLast();
        x.addCert(0, 1, Integer.MIN_VALUE, Integer.MAX_VALUE);
        Paths.validatesAt("least time", x, Integer.MIN_VALUE, CertPathCheck.OK, -1, 0, 0);
        Paths.validatesAt("greatest time", x, Integer.MAX_VALUE, CertPathCheck.OK, -1, 0, 0);
    }

    private static void issuerChaining() {
        for (int at = 0; at < 4; at++) {
            CertPathCheck x = new CertPathCheck(8);
            x.setAnchor(Paths.ANCHOR);
            for (int i = 0; i < 4; i++) {
                x.addCert(i == at ? 0x11 : i + 1, i + 2, 0, 100);
                x.setBasic(i, CertPathCheck.BASIC_CA, -1);
            }
            Paths.fails("wrong issuer at " + at, x, CertPathCheck.ERR_ISSUER, at);
        }
        CertPathCheck x = Paths.chain(2);
        x.setAnchor(2);
        Paths.fails("another anchor", x, CertPathCheck.ERR_ISSUER, 0);
        x.setAnchor(Paths.ANCHOR);
        Paths.passes("the anchor again", x, 0, 0);
    }

    private static int nameStatus(int kind, int subject, int... subtrees) {
        CertPathCheck x = Paths.chain(1);
        for (int subtree : subtrees) {
            x.addSubtree(0, kind, subtree);
        }
        Paths.append(x, subject);
        int status = x.validate(Paths.TIME);
        Due.same("fail index", x.getFailIndex(), status == CertPathCheck.OK ? -1 : 1);
        return status;
    }

    private static void permittedSubtrees() {
        int ok = CertPathCheck.OK;
        int bad = CertPathCheck.ERR_NAME;
        Due.same("the subtree itself", nameStatus(PERMITTED, 0x321, 0x321), ok);
        Due.same("below it", nameStatus(PERMITTED, 0x4321, 0x321), ok);
        Due.same("above it", nameStatus(PERMITTED, 0x21, 0x321), bad);
        Due.same("another last label", nameStatus(PERMITTED, 0x421, 0x321), bad);
        Due.same("another first label", nameStatus(PERMITTED, 0x322, 0x321), bad);
        Due.same("another middle label", nameStatus(PERMITTED, 0x311, 0x321), bad);
        Due.same("the empty subtree", nameStatus(PERMITTED, 0x4321, 0), ok);
        Due.same("the empty name", nameStatus(PERMITTED, 0, 0), ok);
        Due.same("the empty name elsewhere", nameStatus(PERMITTED, 0, 1), bad);
        Due.same("four labels", nameStatus(PERMITTED, 0xFFFF, 0xFFFF), ok);
        Due.same("four labels, the last another", nameStatus(PERMITTED, 0xEFFF, 0xFFFF), bad);
        Due.same("a label that holds the other's bits", nameStatus(PERMITTED, 0x3, 0x1), bad);
        Due.same("the last of four", nameStatus(PERMITTED, 0x54, 1, 2, 3, 4), ok);
        Due.same("none of four", nameStatus(PERMITTED, 0x45, 1, 2, 3, 4), bad);
        Due.same("none given", nameStatus(PERMITTED, 0x45), ok);
    }

    private static void excludedSubtrees() {
        int ok = CertPathCheck.OK;
        int bad = CertPathCheck.ERR_NAME;
        Due.same("the subtree itself", nameStatus(EXCLUDED, 0x321, 0x321), bad);
        Due.same("below it", nameStatus(EXCLUDED, 0x4321, 0x321), bad);
        Due.same("above it", nameStatus(EXCLUDED, 0x21, 0x321), ok);
        Due.same("another label", nameStatus(EXCLUDED, 0x421, 0x321), ok);
        Due.same("the empty subtree", nameStatus(EXCLUDED, 0x4321, 0), bad);
        Due.same("the empty name", nameStatus(EXCLUDED, 0, 0), bad);
        Due.same("the empty name elsewhere", nameStatus(EXCLUDED, 0, 1), ok);
        Due.same("the last of four", nameStatus(EXCLUDED, 0x54, 1, 2, 3, 4), bad);
        Due.same("none of four", nameStatus(EXCLUDED, 0x45, 1, 2, 3, 4), ok);

        CertPathCheck x = Paths.chain(1);
        x.addSubtree(0, PERMITTED, 0x1);
        x.addSubtree(0, EXCLUDED, 0x21);
        Paths.append(x, 0x321);
        Paths.fails("permitted and excluded", x, CertPathCheck.ERR_NAME, 1);
    }

    private static void subtreesReachDownThePathOnly() {
        for (int holder = 0; holder < 5; holder++) {
            CertPathCheck x = Paths.chain(5);
            x.addSubtree(holder, PERMITTED, 0xF);
            int failing = holder + 1;
            if (failing == 5) {
                Paths.passes("the leaf's own subtrees", x, 0, 0);
            } else {
                Paths.fails("permitted by " + holder, x, CertPathCheck.ERR_NAME, failing);
            }
            x = Paths.chain(5);
            x.addSubtree(holder, EXCLUDED, 6);
            if (holder == 4) {
                Paths.passes("the leaf's own subtrees", x, 0, 0);
            } else {
                Paths.fails("excluded by " + holder, x, CertPathCheck.ERR_NAME, 4);
            }
        }
        // Every certificate before has its say: two permitted sets are both asked.
        CertPathCheck x = new CertPathCheck(8);
        Paths.append(x, 0x1);
        x.addSubtree(0, PERMITTED, 0x1);
        Paths.append(x, 0x11);
        x.addSubtree(1, PERMITTED, 0x2);
        Paths.append(x, 0x111);
        Paths.fails("in one permitted set of two", x, CertPathCheck.ERR_NAME, 2);
        x.addSubtree(1, PERMITTED, 0x11);
        Paths.passes("in both permitted sets", x, 0, 0);
    }

    private static void selfIssuedNames() {
        for (int kind = 0; kind <= 1; kind++) {
            CertPathCheck x = Paths.chain(1);
            x.addSubtree(0, kind, kind == PERMITTED ? 0x9 : 0x2);
            Paths.appendSelfIssued(x);
            Paths.fails("a self-issued leaf is checked", x, CertPathCheck.ERR_NAME, 1);
            Paths.append(x, 0x9);
            Paths.passes("a self-issued certificate before the leaf is not", x, 0, 0);
        }
    }

    private static void basicConstraints() {
        for (int at = 0; at < 4; at++) {
            CertPathCheck x = Paths.chain(4);
            x.setBasic(at, 6, -1);
            if (at == 3) {
                Paths.passes("the leaf needs no CA flag", x, 0, 0);
            } else {
                Paths.fails("no CA flag at " + at, x, CertPathCheck.ERR_CA, at);
            }
        }
        CertPathCheck x = new CertPathCheck(8);
        x.addCert(0, 0, 0, 100);
        x.addCert(0, 1, 0, 100);
        Paths.fails("a self-issued certificate needs the CA flag", x, CertPathCheck.ERR_CA, 0);
    }

    private static void keyUsage() {
        int bad = CertPathCheck.ERR_KEY_USAGE;
        int[] due = {CertPathCheck.ERR_CA, 0, CertPathCheck.ERR_CA, bad, CertPathCheck.ERR_CA, 0, CertPathCheck.ERR_CA, 0};
        for (int flags = 0; flags <= 7; flags++) {
            CertPathCheck x = Paths.chain(3);
            x.setBasic(1, flags, -1);
            Paths.validates("basic " + flags, x, due[flags], due[flags] == 0 ? -1 : 1, 0, 0);
            x = Paths.chain(3);
            x.setBasic(2, flags, 0);
            Paths.passes("the leaf's basic " + flags, x, 0, 0);
        }
        CertPathCheck x = Paths.chain(1);
        Paths.appendSelfIssued(x);
        Paths.append(x, 9);
        x.setBasic(1, 3, -1);
        Paths.fails("a self-issued certificate's key usage", x, bad, 1);
    }

    /** One path length in a chain without self-issued certificates: it counts those between it and the leaf. */
    private static void pathLengths() {
        for (int n = 1; n <= 8; n++) {
            for (int at = 0; at < n; at++) {
                for (int pathLen = -1; pathLen <= 15; pathLen++) {
                    CertPathCheck x = Paths.chain(n);
                    x.setBasic(at, CertPathCheck.BASIC_CA, pathLen);
                    int between = n - 2 - at;
                    String what = "pathLen " + pathLen + " at " + at + " of " + n;
                    if (pathLen < 0 || at == n - 1 || between <= pathLen) {
                        Paths.passes(what, x, 0, 0);
                    } else {
                        Paths.fails(what, x, CertPathCheck.ERR_PATH_LENGTH, at + 1 + pathLen);
                    }
                }
            }
        }
        CertPathCheck x = Paths.chain(5);
        x.setBasic(0, CertPathCheck.BASIC_CA, 2);
        x.setBasic(1, CertPathCheck.BASIC_CA, 15);
        Paths.fails("a later length can't widen", x, CertPathCheck.ERR_PATH_LENGTH, 3);
        x.setBasic(0, CertPathCheck.BASIC_CA, 3);
        Paths.passes("wide enough", x, 0, 0);
        x.setBasic(1, CertPathCheck.BASIC_CA, 1);
        Paths.fails("a later length narrows", x, CertPathCheck.ERR_PATH_LENGTH, 3);
    }

    private static void selfIssuedDoNotCount() {
        CertPathCheck x = Paths.chain(1);
        x.setBasic(0, CertPathCheck.BASIC_CA, 0);
        for (int k = 0; k < 6; k++) {
            Paths.appendSelfIssued(x);
        }
        Paths.append(x, 9);
        Paths.passes("six self-issued after length 0", x, 0, 0);

        x = Paths.chain(1);
        Paths.appendSelfIssued(x);
        x.setBasic(1, CertPathCheck.BASIC_CA, 0);
        Paths.append(x, 9);
        Paths.append(x, 10);
        Paths.fails("a self-issued certificate's length binds", x, CertPathCheck.ERR_PATH_LENGTH, 2);

        x = Paths.chain(1);
        x.setBasic(0, CertPathCheck.BASIC_CA, 0);
        Paths.append(x, 9);
        Paths.passes("the leaf does not count", x, 0, 0);
    }

    /** One certificate with every fault, mended one by one in the order of the checks. */
    private static void orderWithinAPosition() {
        CertPathCheck x = Paths.chain(1);
        x.setBasic(0, CertPathCheck.BASIC_CA, 0);
        x.addSubtree(0, EXCLUDED, 0x5);
        x.addPolicy(0, 1);
        x.setPolicyConstraints(0, 0, -1, -1);
        int[][] faulty = {
            {0x7, 0x5, 60, 100, CertPathCheck.ERR_VALIDITY},
            {0x7, 0x5, 0, 100, CertPathCheck.ERR_ISSUER},
            {0x2, 0x5, 0, 100, CertPathCheck.ERR_NAME},
            {0x2, 0x6, 0, 100, CertPathCheck.ERR_POLICY},
        };
        for (int[] row : faulty) {
            x.addCert(row[0], row[1], row[2], row[3]);
            x.setBasic(1, CertPathCheck.BASIC_KEY_USAGE, -1);
            x.addCert(row[1], 0x8, 0, 100);
            Paths.fails("order " + row[4], x, row[4], 1);
            x.removeLast();
            x.removeLast();
        }
        x.addCert(0x2, 0x6, 0, 100);
        x.addPolicy(1, 1);
        x.setBasic(1, CertPathCheck.BASIC_KEY_USAGE, -1);
        x.addCert(0x6, 0x8, 0, 100);
        Paths.fails("CA flag", x, CertPathCheck.ERR_CA, 1);
        x.setBasic(1, 3, -1);
        Paths.fails("path length", x, CertPathCheck.ERR_PATH_LENGTH, 1);
        x.setBasic(0, CertPathCheck.BASIC_CA, 1);
        Paths.fails("key usage", x, CertPathCheck.ERR_KEY_USAGE, 1);
        x.setBasic(1, 7, -1);
        Paths.fails("the leaf's policies", x, CertPathCheck.ERR_POLICY, 2);
        x.addPolicy(2, 1);
        Paths.passes("all mended", x, 2, 2);
    }

    private static void orderOfPositions() {
        CertPathCheck x = new CertPathCheck(8);
        x.addCert(0, 1, 0, 100);
        x.setBasic(0, 3, -1);
        x.addCert(1, 2, 60, 100);
        Paths.fails("the last check of 0 is before the first of 1", x, CertPathCheck.ERR_KEY_USAGE, 0);
        x.setBasic(0, 7, -1);
        Paths.fails("then the first of 1", x, CertPathCheck.ERR_VALIDITY, 1);
    }

    private static void validateChangesOnlyTheResult() {
        CertPathCheck x = Paths.chain(4);
        for (int cert = 0; cert < 4; cert++) {
            Paths.policies(x, cert, 0, cert + 1);
            x.addMapping(cert, cert + 1, cert + 2);
            x.addSubtree(cert, EXCLUDED, 0xF);
        }
        x.setPolicyConstraints(1, 0, 1, 2);
        Map<String, Integer> before = Reading.of(x);
        x.validate(101);
        Due.changed("a failed validate", before, Reading.of(x), "status", "fail");
        x.validate(Paths.TIME);
        Map<String, Integer> first = Reading.of(x);
        Due.changed("a passed validate", before, first, "status", "F", "R");
        x.validate(Paths.TIME);
        Due.changed("the same validate", first, Reading.of(x));
        x.validate(-1);
        x.validate(Paths.TIME);
        Due.changed("the same validate after another", first, Reading.of(x));
    }
}

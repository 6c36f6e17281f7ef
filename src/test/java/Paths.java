/** Paths that validate at time 50, for tests to spoil. */
final class Paths {
    static final int ANCHOR = 1;
    static final int TIME = 50;
    /** The time at which a path of policied() fails at its leaf. */
    static final int LATE = 95;
    private static final int CA = CertPathCheck.BASIC_CA;

    private Paths() {
    }

    /** n certificates without policies; the subject at position i is the one-label name i + 2. */
    static CertPathCheck chain(int n) {
        CertPathCheck x = new CertPathCheck(8);
        x.setAnchor(ANCHOR);
        for (int i = 0; i < n; i++) {
            append(x, i + 2);
        }
        return x;
    }

    /** A chain that passes at TIME with F = {3} and R = {3, 5}, and fails at LATE at its leaf. */
    static CertPathCheck policied(int n) {
        CertPathCheck x = chain(n);
        if (n > 0) {
            x.removeLast();
            x.addCert(n, n + 1, 0, LATE - 1);
        }
        for (int cert = 0; cert < n; cert++) {
            policies(x, cert, 3, 5);
        }
        x.setInitial((1 << 3) + (1 << 2), 0);
        return x;
    }

    /** The name that issues the next certificate: the anchor or the last subject. */
    private static int nextIssuer(CertPathCheck x) {
        int at = x.getField(-1, CertPathCheck.G_COUNT);
        return at == 0 ? x.getField(-1, CertPathCheck.G_ANCHOR) : x.getField(at - 1, CertPathCheck.F_SUBJECT);
    }

    /** Appends a certificate issued by the last one; every certificate before it becomes or stays a CA. */
    static int append(CertPathCheck x, int subject) {
        int at = x.getField(-1, CertPathCheck.G_COUNT);
        int issuer = nextIssuer(x);
        if (at > 0) {
            int pathLen = x.getField(at - 1, CertPathCheck.F_PATH_LEN);
            x.setBasic(at - 1, x.getField(at - 1, CertPathCheck.F_BASIC) | CA, pathLen);
        }
        return x.addCert(issuer, subject, 0, 100);
    }

    static int appendSelfIssued(CertPathCheck x) {
        return append(x, nextIssuer(x));
    }

    static void policies(CertPathCheck x, int cert, int... policies) {
        for (int policy : policies) {
            x.addPolicy(cert, policy);
        }
    }

    /** Validates and looks at the whole last result. */
    static void validates(String what, CertPathCheck x, int status, int failIndex, int accepted, int authority) {
        validatesAt(what, x, TIME, status, failIndex, accepted, authority);
    }

    static void validatesAt(String what, CertPathCheck x, int time, int... due) {
        Due.same(what + ", validate", x.validate(time), due[0]);
        holds(what, x, due);
    }

    /** Looks at the last result: status, fail index, F and R. */
    static void holds(String what, CertPathCheck x, int... due) {
        Due.same(what + ", status", x.getField(-1, CertPathCheck.G_STATUS), due[0]);
        Due.same(what + ", fail index", x.getFailIndex(), due[1]);
        Due.same(what + ", F", x.getPolicies(), due[2]);
        Due.same(what + ", R", x.getAuthorityPolicies(), due[3]);
    }

    static void isReset(String what, CertPathCheck x) {
        holds(what, x, CertPathCheck.NOT_VALIDATED, -1, 0, 0);
    }

    static void passes(String what, CertPathCheck x, int accepted, int authority) {
        validates(what, x, CertPathCheck.OK, -1, accepted, authority);
    }

    static void fails(String what, CertPathCheck x, int status, int failIndex) {
        validates(what, x, status, failIndex, 0, 0);
    }
}

/**
 * Paths with chosen faults at chosen positions. The faults of a position are a mask in which bit s stands for the
 * fault that the check of status s finds; the checks of a position come in the order of their statuses.
 */
final class Faulty {
    private Faulty() {
    }

    /** Whether the check of that status can fail at that position of a path of n. */
    static boolean possible(int n, int at, int status) {
        boolean leaf = at == n - 1;
        return switch (status) {
            case CertPathCheck.ERR_NAME -> at > 0;
            case CertPathCheck.ERR_CA, CertPathCheck.ERR_KEY_USAGE -> !leaf;
            case CertPathCheck.ERR_PATH_LENGTH -> at > 0 && !leaf;
            default -> true;
        };
    }

    /** Without faults the path passes with F = R = {3}, and it is not longer than its capacity allows. */
    static CertPathCheck path(int capacity, int... faults) {
        CertPathCheck x = new CertPathCheck(capacity);
        x.setAnchor(Paths.ANCHOR);
        x.setInitial(1, CertPathCheck.INIT_EXPLICIT);
        for (int at = 0; at < faults.length; at++) {
            int issuer = has(faults[at], CertPathCheck.ERR_ISSUER) ? 0xE1 : at + 1;
            x.addCert(issuer, at + 2, has(faults[at], CertPathCheck.ERR_VALIDITY) ? Paths.TIME + 1 : 0, 100);
            if (!has(faults[at], CertPathCheck.ERR_POLICY)) {
                x.addPolicy(at, 3);
            }
            int next = at + 1 < faults.length ? faults[at + 1] : 0;
            if (has(next, CertPathCheck.ERR_NAME)) {
                x.addSubtree(at, CertPathCheck.EXCLUDED, at + 3);
            }
            int basic = has(faults[at], CertPathCheck.ERR_CA) ? 0 : CertPathCheck.BASIC_CA;
            basic |= has(faults[at], CertPathCheck.ERR_KEY_USAGE) ? CertPathCheck.BASIC_KEY_USAGE : 0;
            x.setBasic(at, basic, has(next, CertPathCheck.ERR_PATH_LENGTH) ? 0 : -1);
        }
        return x;
    }

    private static boolean has(int faults, int status) {
        return (faults >> status & 1) != 0;
    }

    /** A path of n with one fault, or with none if the status is OK; of none if it is ERR_EMPTY. */
    static CertPathCheck with(int status, int at, int n, int capacity) {
        int[] faults = new int[status == CertPathCheck.ERR_EMPTY ? 0 : n];
        if (status > CertPathCheck.ERR_EMPTY) {
            faults[at] = 1 << status;
        }
        return path(capacity, faults);
    }

    /** Looks at the result of a validate of with(status, at, ..). */
    static void isAsBuilt(String what, CertPathCheck x, int status, int at) {
        int mask = status == CertPathCheck.OK ? 1 << 3 : 0;
        int fail = status <= CertPathCheck.ERR_EMPTY ? -1 : at;
        Paths.validates(what, x, status, fail, mask, mask);
    }
}

/** Promise 11 and the last section: which of several faults is the answer. */
public final class FaultOrderTest {
    private static final int FIRST = CertPathCheck.ERR_VALIDITY;
    private static final int LAST = CertPathCheck.ERR_KEY_USAGE;
    private static final int N = 5;

    public static void main(String[] args) {
        Due.sentence("Positions i = 0..n-1 are processed in order, and the checks of one position in the order below.",
                FaultOrderTest::twoFaults);
        Due.sentence("The first failing check ends validation with that check's status and fail index i, and "
                + "F = R = 0.", FaultOrderTest::oneFault);
        Due.sentence("the status and fail index must be those of the first failing check in the order of Promise 11",
                FaultOrderTest::everySetOfFaultsOfAPosition);
        Due.sentence("Wrap-up (reached when the leaf's check 4 has passed)", FaultOrderTest::wrapUpComesLast);
        Due.sentence("In summary, when n >= 1 the answer is OK exactly when", FaultOrderTest::okWithoutFaultsOnly);
        Due.end();
    }

    private static void oneFault() {
        for (int n = 1; n <= 8; n++) {
            for (int at = 0; at < n; at++) {
                for (int status = FIRST; status <= LAST; status++) {
                    if (Faulty.possible(n, at, status)) {
                        CertPathCheck x = Faulty.with(status, at, n, n);
                        Faulty.isAsBuilt("fault " + status + " at " + at + " of " + n, x, status, at);
                    }
                }
            }
            Faulty.isAsBuilt("no fault of " + n, Faulty.with(CertPathCheck.OK, 0, n, n), CertPathCheck.OK, 0);
        }
    }

    private static void twoFaults() {
        for (int one = 0; one < N * (LAST + 1); one++) {
            for (int other = one + 1; other < N * (LAST + 1); other++) {
                int oneAt = one / (LAST + 1);
                int oneStatus = one % (LAST + 1);
                int otherAt = other / (LAST + 1);
                int otherStatus = other % (LAST + 1);
                if (Math.min(oneStatus, otherStatus) < FIRST || !Faulty.possible(N, oneAt, oneStatus)
                        || !Faulty.possible(N, otherAt, otherStatus)) {
                    continue;
                }
                int[] faults = new int[N];
                faults[oneAt] |= 1 << oneStatus;
                faults[otherAt] |= 1 << otherStatus;
                String what = oneStatus + " at " + oneAt + " and " + otherStatus + " at " + otherAt;
                Paths.fails(what, Faulty.path(8, faults), oneStatus, oneAt);
            }
        }
    }

    private static void everySetOfFaultsOfAPosition() {
        for (int at = 0; at < 3; at++) {
            for (int set = 1 << FIRST; set < 2 << LAST; set += 1 << FIRST) {
                int first = 0;
                for (int status = LAST; status >= FIRST; status--) {
                    boolean there = (set >> status & 1) != 0 && Faulty.possible(3, at, status);
                    first = there ? status : first;
                }
                int[] faults = new int[3];
                faults[at] = set;
                if (first != 0) {
                    Paths.fails("faults " + set + " at " + at, Faulty.path(3, faults), first, at);
                }
            }
        }
    }

    /** No user policy is met: each fault of the leaf comes before that, and so does each fault before the leaf. */
    private static void wrapUpComesLast() {
        for (int at = 0; at < 3; at++) {
            for (int status = FIRST; status <= LAST; status++) {
                if (Faulty.possible(3, at, status)) {
                    CertPathCheck x = Faulty.with(status, at, 3, 3);
                    x.setInitial(1 << 4, CertPathCheck.INIT_EXPLICIT);
                    Paths.fails("fault " + status + " at " + at, x, status, at);
                }
            }
        }
        CertPathCheck x = Faulty.path(3, 0, 0, 0);
        x.setInitial(1 << 4, CertPathCheck.INIT_EXPLICIT);
        Paths.fails("no other fault", x, CertPathCheck.ERR_POLICY, 2);
    }

    private static void okWithoutFaultsOnly() {
        for (int first = 0; first < 2 << LAST; first += 1 << FIRST) {
            for (int last = 0; last < 2 << LAST; last += 1 << FIRST) {
                boolean none = true;
                for (int status = FIRST; status <= LAST; status++) {
                    none &= (first >> status & 1) == 0 || !Faulty.possible(2, 0, status);
                    none &= (last >> status & 1) == 0 || !Faulty.possible(2, 1, status);
                }
                boolean ok = Faulty.path(2, first, last).validate(Paths.TIME) == CertPathCheck.OK;
                Due.yes("faults " + first + " and " + last, ok == none);
            }
        }
    }
}

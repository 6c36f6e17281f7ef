import java.util.Map;

/** Promises 4 and 5: addCert and removeLast. */
public final class CertListTest {
    private static final int[] DEFAULTS_FROM_BASIC = {0, -1, 0, -1, -1, -1, 0, 0};

    public static void main(String[] args) {
        refusedCerts();
        acceptedCert();
        anyTimesAreKept();
        fullList();
        removing();
        nothingOfARemovedCertRemains();
        Due.end();
    }

    private static void refusedCerts() {
        int[] wrong = {-1, 65536, 0x0010, 0x1011, Integer.MIN_VALUE, Integer.MAX_VALUE};
        CertPathCheck x = Paths.chain(2);
        x.validate(Paths.TIME);
        Map<String, Integer> before = Reading.of(x);
        for (int value : wrong) {
            Due.same("issuer " + value, x.addCert(value, 1, 0, 1), -1);
            Due.same("subject " + value, x.addCert(1, value, 0, 1), -1);
        }
        Due.changed("refused addCert", before, Reading.of(x));
    }

    private static void acceptedCert() {
        CertPathCheck x = Paths.chain(2);
        x.setInitial(3, 0);
        x.validate(Paths.TIME);
        Map<String, Integer> before = Reading.of(x);
        Due.same("addCert", x.addCert(0x21, 0x4321, -5, 77), 2);
        Map<String, Integer> after = Reading.of(x);
        Due.changed("the rest", Reading.without(before, 2), Reading.without(after, 2), "count", "status");
        Due.same("count", after.get("count"), 3);
        isNew(x, 2, 0x21, 0x4321, -5, 77);
    }

    private static void isNew(CertPathCheck x, int cert, int... given) {
        for (int field = 0; field <= 3; field++) {
            Due.same("new cert, field " + field, x.getField(cert, field), given[field]);
        }
        for (int field = 4; field <= 11; field++) {
            Due.same("new cert, field " + field, x.getField(cert, field), DEFAULTS_FROM_BASIC[field - 4]);
        }
        for (int s = 1; s <= 15; s++) {
            Due.same("new cert, T(" + s + ")", x.getMappingTargets(cert, s), 0);
        }
        for (int k = 0; k < 4; k++) {
            Due.same("new cert, permitted", x.getSubtree(cert, CertPathCheck.PERMITTED, k), -1);
            Due.same("new cert, excluded", x.getSubtree(cert, CertPathCheck.EXCLUDED, k), -1);
        }
    }

    private static void anyTimesAreKept() {
        int[] times = {Integer.MIN_VALUE, Integer.MIN_VALUE + 1, -1, 0, 1, Integer.MAX_VALUE};
        for (int from : times) {
            for (int to : times) {
                CertPathCheck x = new CertPathCheck(1);
                Due.same("addCert", x.addCert(0, 0, from, to), 0);
                isNew(x, 0, 0, 0, from, to);
            }
        }
    }

    private static void fullList() {
        for (int capacity = 1; capacity <= 8; capacity++) {
            CertPathCheck x = new CertPathCheck(capacity);
            for (int cert = 0; cert < capacity; cert++) {
                Due.same("addCert", x.addCert(cert, cert + 1, cert * 10, cert * 10 + 5), cert);
            }
            x.validate(0);
            Map<String, Integer> before = Reading.of(x);
            Due.same("addCert when full", x.addCert(1, 2, 3, 4), -1);
            Due.changed("addCert when full", before, Reading.of(x));
            for (int cert = 0; cert < capacity; cert++) {
                isNew(x, cert, cert, cert + 1, cert * 10, cert * 10 + 5);
            }
        }
    }

    private static void removing() {
        CertPathCheck x = new CertPathCheck(8);
        x.validate(0);
        Map<String, Integer> before = Reading.of(x);
        Due.no("removeLast of none", x.removeLast());
        Due.changed("removeLast of none", before, Reading.of(x));

        x = Paths.chain(8);
        for (int last = 7; last >= 0; last--) {
            x.validate(Paths.TIME);
            before = Reading.of(x);
            int status = before.get("status");
            Due.yes("removeLast", x.removeLast());
            Map<String, Integer> after = Reading.of(x);
            Due.yes("a result was there", status != CertPathCheck.NOT_VALIDATED);
            Due.changed("removeLast, the rest", Reading.without(before, last), Reading.without(after, last),
                    "count", "status");
            Due.same("count", after.get("count"), last);
            Due.same("the removed one", x.getField(last, CertPathCheck.F_ISSUER), CertPathCheck.NO_VALUE);
        }
        Due.no("removeLast of none", x.removeLast());
    }

    private static void nothingOfARemovedCertRemains() {
        CertPathCheck x = new CertPathCheck(8);
        for (int cert = 0; cert < 8; cert++) {
            x.addCert(1, 2, 3, 4);
            fill(x, cert);
        }
        for (int cert = 7; cert >= 0; cert--) {
            x.removeLast();
            Due.same("T of the removed one", x.getMappingTargets(cert, 15), 0);
            Due.same("subtree of the removed one", x.getSubtree(cert, 0, 0), -1);
            Due.no("setBasic of the removed one", x.setBasic(cert, 0, 0));
            Due.no("addSubtree of the removed one", x.addSubtree(cert, 0, 0));
        }
        for (int cert = 0; cert < 8; cert++) {
            Due.same("addCert again", x.addCert(0x11, 0x12, 8, 9), cert);
            isNew(x, cert, 0x11, 0x12, 8, 9);
            Due.yes("addSubtree", x.addSubtree(cert, 1, 0x7));
            Due.same("the first subtree", x.getSubtree(cert, 1, 0), 0x7);
            Due.same("no second subtree", x.getSubtree(cert, 1, 1), -1);
        }
    }

    private static void fill(CertPathCheck x, int cert) {
        x.setBasic(cert, 7, 15);
        x.setPolicyConstraints(cert, 15, 14, 13);
        for (int p = 0; p <= 15; p++) {
            x.addPolicy(cert, p);
            for (int t = 1; t <= 15; t++) {
                x.addMapping(cert, p, t);
            }
        }
        for (int k = 0; k < 4; k++) {
            x.addSubtree(cert, CertPathCheck.PERMITTED, 1);
            x.addSubtree(cert, CertPathCheck.EXCLUDED, 2);
        }
    }
}

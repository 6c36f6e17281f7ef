import java.util.Map;

/** Promise 1: construction and the starting state. */
public final class ConstructionTest {
    private static final int[] SOME = {Calls.LEAST, -1, 0, 1, 2, 5, 8, 9, Calls.GREATEST};

    public static void main(String[] args) {
        Due.sentence("accepts every int", ConstructionTest::everyInt);
        Due.sentence("capacity is the greatest count the list may reach, clamped into 1..8",
                ConstructionTest::greatestCount);
        Due.sentence("any value below 1 (Integer.MIN_VALUE included) becomes 1",
                () -> becomes(1, Calls.LEAST, Calls.LEAST + 1, -65536, -256, -8, -7, -2, -1, 0));
        Due.sentence("any value above 8 becomes 8",
                () -> becomes(8, 9, 10, 15, 16, 17, 256, 257, 65536, 65537, Calls.GREATEST - 1, Calls.GREATEST));
        Due.sentence("values 1..8 are kept", ConstructionTest::keptValues);
        Due.sentence("Capacity never changes afterwards.", ConstructionTest::neverChanges);
        Due.sentence("At the start: count 0 (no certificates)", ConstructionTest::noCertificates);
        Due.sentence("anchor 0 (the empty name)", ConstructionTest::emptyAnchor);
        Due.sentence("user policy set U = 1 (ANY_POLICY only)", ConstructionTest::anyPolicyOnly);
        Due.sentence("initial flags 0", ConstructionTest::noFlags);
        Due.sentence("the last result is status NOT_VALIDATED, fail index -1, F = 0, R = 0",
                () -> forSome("a new object", Paths::isReset));
        objectsAreApart();
        Due.end();
    }

    private interface Look {
        void at(String what, CertPathCheck x);
    }

    private static void forSome(String what, Look look) {
        for (int given : SOME) {
            look.at(what + " of capacity " + given, new CertPathCheck(given));
        }
    }

    private static int capacity(int given) {
        return new CertPathCheck(given).getField(-1, CertPathCheck.G_CAPACITY);
    }

    private static void becomes(int due, int... given) {
        for (int value : given) {
            Due.same("capacity " + value, capacity(value), due);
        }
    }

    private static void everyInt() {
        for (int shift = 0; shift < 32; shift++) {
            for (int off = -9; off <= 9; off++) {
                int given = (1 << shift) + off;
                Due.same("capacity " + given, capacity(given), Math.max(1, Math.min(8, given)));
            }
        }
    }

    private static void keptValues() {
        for (int given = 1; given <= 8; given++) {
            becomes(given, given);
        }
    }

    private static void greatestCount() {
        for (int given = -3; given <= 12; given++) {
            CertPathCheck x = new CertPathCheck(given);
            int most = Math.max(1, Math.min(8, given));
            for (int k = 0; k < 20; k++) {
                Due.same("addCert " + k + " of " + given, x.addCert(0, 1, 0, 0), k < most ? k : -1);
            }
            Due.same("count", x.getField(-1, CertPathCheck.G_COUNT), most);
        }
    }

    private static void neverChanges() {
        for (int given = 1; given <= 8; given++) {
            CertPathCheck x = new CertPathCheck(given);
            for (int round = 0; round < 3; round++) {
                for (int k = 0; k < 9; k++) {
                    x.addCert(0, 0, 0, 100);
                    Due.same("after addCert", x.getField(-1, CertPathCheck.G_CAPACITY), given);
                }
                x.setAnchor(0);
                x.setInitial(65535, 7);
                x.setBasic(0, 7, 15);
                x.addPolicy(0, 15);
                x.addMapping(0, 15, 15);
                x.setPolicyConstraints(0, 15, 15, 15);
                x.addSubtree(0, 0, 0);
                x.validate(0);
                Due.same("after the writers", x.getField(-1, CertPathCheck.G_CAPACITY), given);
                for (int k = 0; k < 9; k++) {
                    x.removeLast();
                    Due.same("after removeLast", x.getField(-1, CertPathCheck.G_CAPACITY), given);
                }
            }
        }
    }

    private static void noCertificates() {
        forSome("a new object", (what, x) -> {
            Due.same(what + ", count", x.getField(-1, CertPathCheck.G_COUNT), 0);
            for (int cert = 0; cert <= 8; cert++) {
                Due.same(what, x.getField(cert, CertPathCheck.F_ISSUER), CertPathCheck.NO_VALUE);
            }
            Paths.fails(what, x, CertPathCheck.ERR_EMPTY, -1);
            Due.no(what + ", removeLast", x.removeLast());
        });
    }

    private static void emptyAnchor() {
        forSome("a new object", (what, x) -> {
            Due.same(what + ", anchor", x.getField(-1, CertPathCheck.G_ANCHOR), 0);
            x.addCert(0, 1, 0, 100);
            Paths.passes(what + ", issued by the empty name", x, 0, 0);
        });
    }

    private static void anyPolicyOnly() {
        forSome("a new object", (what, x) -> {
            Due.same(what + ", U", x.getField(-1, CertPathCheck.G_USER_POLICIES), 1);
            x.addCert(0, 1, 0, 100);
            x.addPolicy(0, 7);
            Paths.passes(what + ", accepts what the path has", x, 1 << 7, 1 << 7);
        });
    }

    private static void noFlags() {
        forSome("a new object", (what, x) -> {
            Due.same(what + ", flags", x.getField(-1, CertPathCheck.G_INIT_FLAGS), 0);
            x.addCert(0, 1, 0, 100);
            Paths.passes(what + ", not explicit", x, 0, 0);
            x.addPolicy(0, 0);
            Paths.passes(what + ", any-policy counts", x, 1, 1);
        });
    }

    private static void objectsAreApart() {
        CertPathCheck one = new CertPathCheck(2);
        CertPathCheck other = new CertPathCheck(2);
        Map<String, Integer> before = Reading.of(other);
        one.setAnchor(7);
        one.setInitial(6, 7);
        one.addCert(7, 8, 0, 0);
        one.addPolicy(0, 3);
        one.addMapping(0, 1, 2);
        one.addSubtree(0, 0, 1);
        one.validate(0);
        Due.changed("another object", before, Reading.of(other));
    }
}

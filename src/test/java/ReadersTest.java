import java.util.Map;

/** Promises 13 to 15: getField, getMappingTargets and getSubtree. */
public final class ReadersTest {
    private static final int[] FAR = {Integer.MIN_VALUE, Integer.MIN_VALUE + 1, -1000, 1000, 178956971,
        268435456, 357913942, Integer.MAX_VALUE};

    public static void main(String[] args) {
        globalFields();
        certFields();
        otherPairsOfArguments();
        noValueAsATime();
        mappingTargets();
        subtrees();
        Due.end();
    }

    private static CertPathCheck filled() {
        CertPathCheck x = new CertPathCheck(5);
        x.setAnchor(0x77);
        x.setInitial(0x1234, 6);
        for (int cert = 0; cert < 3; cert++) {
            x.addCert(0x11 + cert, 0x21 + cert, 100 + cert, 200 + cert);
            x.setBasic(cert, 5 + cert, 10 + cert);
            x.addPolicy(cert, 9 + cert);
            x.setPolicyConstraints(cert, 1 + cert, 4 + cert, 7 + cert);
            x.addMapping(cert, 1 + cert, 15 - cert);
            x.addMapping(cert, 15, 1 + cert);
            for (int k = 0; k <= cert; k++) {
                x.addSubtree(cert, CertPathCheck.PERMITTED, 0x31 + 16 * cert + k);
            }
            x.addSubtree(cert, CertPathCheck.EXCLUDED, 0x91 + cert);
        }
        return x;
    }

    private static void globalFields() {
        CertPathCheck x = filled();
        int[] due = {3, 5, 0x77, 0x1234, 6, CertPathCheck.NOT_VALIDATED};
        for (int field = 0; field <= 5; field++) {
            Due.same("global field " + field, x.getField(-1, field), due[field]);
        }
        x.validate(0);
        Due.same("status", x.getField(-1, CertPathCheck.G_STATUS), CertPathCheck.ERR_VALIDITY);
    }

    private static void certFields() {
        CertPathCheck x = filled();
        for (int cert = 0; cert < 3; cert++) {
            int[] due = {0x11 + cert, 0x21 + cert, 100 + cert, 200 + cert, 5 + cert, 10 + cert, 1 << (9 + cert),
                1 + cert, 4 + cert, 7 + cert, 1 + cert, 1};
            for (int field = 0; field <= 11; field++) {
                Due.same(Reading.field(cert, field), x.getField(cert, field), due[field]);
            }
        }
    }

    private static void otherPairsOfArguments() {
        CertPathCheck x = filled();
        x.validate(0);
        Map<String, Integer> before = Reading.of(x);
        for (int cert = -20; cert <= 20; cert++) {
            for (int field = -40; field <= 140; field++) {
                boolean known = cert == -1 && field >= 0 && field <= 5
                        || cert >= 0 && cert < 3 && field >= 0 && field <= 11;
                if (!known) {
                    Due.same("getField(" + cert + ", " + field + ")", x.getField(cert, field), CertPathCheck.NO_VALUE);
                }
            }
        }
        for (int far : FAR) {
            for (int near = -1; near <= 12; near++) {
                Due.same("getField(" + far + ", " + near + ")", x.getField(far, near), CertPathCheck.NO_VALUE);
                Due.same("getField(" + near + ", " + far + ")", x.getField(near, far), CertPathCheck.NO_VALUE);
            }
        }
        Due.changed("getField", before, Reading.of(x));
    }

    private static void noValueAsATime() {
        CertPathCheck x = new CertPathCheck(1);
        x.addCert(0, 0, Integer.MIN_VALUE, Integer.MIN_VALUE);
        Due.same("notBefore", x.getField(0, CertPathCheck.F_NOT_BEFORE), CertPathCheck.NO_VALUE);
        Due.same("notAfter", x.getField(0, CertPathCheck.F_NOT_AFTER), CertPathCheck.NO_VALUE);
    }

    private static void mappingTargets() {
        CertPathCheck x = filled();
        x.validate(0);
        Map<String, Integer> before = Reading.of(x);
        for (int cert = -9; cert <= 9; cert++) {
            for (int s = -40; s <= 140; s++) {
                int due = 0;
                if (cert >= 0 && cert < 3) {
                    due |= s == 1 + cert ? 1 << (15 - cert) : 0;
                    due |= s == 15 ? 1 << (1 + cert) : 0;
                }
                Due.same("getMappingTargets(" + cert + ", " + s + ")", x.getMappingTargets(cert, s), due);
            }
        }
        for (int far : FAR) {
            Due.same("a far cert", x.getMappingTargets(far, 15), 0);
            Due.same("a far s", x.getMappingTargets(0, far), 0);
        }
        Due.changed("getMappingTargets", before, Reading.of(x));
    }

    private static void subtrees() {
        CertPathCheck x = filled();
        x.validate(0);
        Map<String, Integer> before = Reading.of(x);
        for (int cert = -9; cert <= 9; cert++) {
            for (int kind = -9; kind <= 9; kind++) {
                for (int k = -9; k <= 70; k++) {
                    int due = -1;
                    if (cert >= 0 && cert < 3 && kind == 0 && k >= 0 && k <= cert) {
                        due = 0x31 + 16 * cert + k;
                    } else if (cert >= 0 && cert < 3 && kind == 1 && k == 0) {
                        due = 0x91 + cert;
                    }
                    Due.same("getSubtree(" + cert + ", " + kind + ", " + k + ")", x.getSubtree(cert, kind, k), due);
                }
            }
        }
        for (int far : FAR) {
            Due.same("a far cert", x.getSubtree(far, 0, 0), -1);
            Due.same("a far kind", x.getSubtree(0, far, 0), -1);
            Due.same("a far k", x.getSubtree(0, 0, far), -1);
        }
        Due.changed("getSubtree", before, Reading.of(x));
    }
}

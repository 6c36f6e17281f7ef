import java.util.Map;

/** Promise 13: getField. */
public final class GetFieldTest {
    private static final int NO_VALUE = CertPathCheck.NO_VALUE;

    public static void main(String[] args) {
        Due.sentence("`getField(cert, field)` changes nothing.", GetFieldTest::changesNothing);
        Due.sentence("it answers count, capacity, the anchor name, U, the initial flags, or the last result's status",
                GetFieldTest::globals);
        Due.sentence("it answers that part of cert", GetFieldTest::parts);
        Due.sentence("cert below -1", () -> noneFor(-2, -3, -9, -1000, Calls.LEAST + 1, Calls.LEAST));
        Due.sentence("cert >= count", GetFieldTest::beyondTheList);
        Due.sentence("cert == -1 with a field outside 0..5", GetFieldTest::otherGlobals);
        Due.sentence("a valid cert with a field outside 0..11", GetFieldTest::otherParts);
        Due.sentence("A stored notBefore or notAfter equal to -2147483648 reads back as that same value, equal to "
                + "NO_VALUE.", GetFieldTest::noValueAsATime);
        Due.end();
    }

    /** Three certificates; every part of every one differs from the same part of the others. */
    static CertPathCheck filled() {
        CertPathCheck x = new CertPathCheck(5);
        x.setAnchor(0x77);
        x.setInitial(0x1234, 6);
        for (int cert = 0; cert < 3; cert++) {
            x.addCert(0x11 + cert, 0x21 + cert, 100 + cert, 200 + cert);
            x.setBasic(cert, 5 + cert, 10 + cert);
            x.addPolicy(cert, 9 + cert);
            x.setPolicyConstraints(cert, 1 + cert, 4 + cert, 7 + cert);
            x.addMapping(cert, 1 + cert, 15 - cert);
            x.addMapping(cert, 15, 1 + cert);
            for (int k = 0; k <= cert; k++) {
                x.addSubtree(cert, CertPathCheck.PERMITTED, 0x31 + 16 * cert + k);
            }
            x.addSubtree(cert, CertPathCheck.EXCLUDED, 0x91 + cert);
        }
        return x;
    }

    private static void changesNothing() {
        for (int time : new int[] {Paths.TIME, Paths.LATE}) {
            CertPathCheck x = Paths.policied(3);
            x.validate(time);
            Map<String, Integer> before = Reading.of(x);
            for (int cert = -3; cert <= 9; cert++) {
                for (int field = -2; field <= 13; field++) {
                    x.getField(cert, field);
                }
            }
            Due.changed("getField", before, Reading.of(x));
        }
    }

    private static void globals() {
        CertPathCheck x = filled();
        int[] due = {3, 5, 0x77, 0x1234, 6, CertPathCheck.NOT_VALIDATED};
        for (int field = 0; field <= 5; field++) {
            Due.same("global field " + field, x.getField(-1, field), due[field]);
        }
        x.validate(0);
        Due.same("status", x.getField(-1, CertPathCheck.G_STATUS), CertPathCheck.ERR_VALIDITY);
        CertPathCheck empty = new CertPathCheck(1);
        Due.same("count of an empty list", empty.getField(-1, CertPathCheck.G_COUNT), 0);
    }

    private static void parts() {
        CertPathCheck x = filled();
        for (int cert = 0; cert < 3; cert++) {
            int[] due = {0x11 + cert, 0x21 + cert, 100 + cert, 200 + cert, 5 + cert, 10 + cert, 1 << (9 + cert),
                1 + cert, 4 + cert, 7 + cert, 1 + cert, 1};
            for (int field = 0; field <= 11; field++) {
                Due.same(Reading.field(cert, field), x.getField(cert, field), due[field]);
            }
        }
    }

    private static void noneFor(int... certs) {
        CertPathCheck x = filled();
        for (int cert : certs) {
            for (int field = -40; field <= 140; field++) {
                Due.same("getField(" + cert + ", " + field + ")", x.getField(cert, field), NO_VALUE);
            }
        }
    }

    private static void beyondTheList() {
        noneFor(3, 4, 5, 7, 8, 9, 100, 178956971, 268435456, 357913941, 357913942, Calls.GREATEST);
        for (int count = 0; count <= 8; count++) {
            CertPathCheck x = Paths.policied(8);
            for (int k = count; k < 8; k++) {
                x.removeLast();
            }
            for (int field = 0; field <= 11; field++) {
                Due.same("at count", x.getField(count, field), NO_VALUE);
                Due.yes("before count", count == 0 || x.getField(count - 1, field) != NO_VALUE);
            }
        }
    }

    private static void otherGlobals() {
        int[] others = {Calls.LEAST, Calls.LEAST + 1, -13, -12, -2, -1, 6, 7, 11, 12, 13, 16, 24, 1 << 16,
            Calls.GREATEST};
        for (CertPathCheck x : new CertPathCheck[] {filled(), new CertPathCheck(8)}) {
            for (int field : others) {
                Due.same("getField(-1, " + field + ")", x.getField(-1, field), NO_VALUE);
            }
        }
    }

    private static void otherParts() {
        int[] others = {Calls.LEAST, Calls.LEAST + 1, -24, -13, -12, -2, -1, 12, 13, 23, 24, 25, 96, 1 << 16,
            Calls.GREATEST};
        CertPathCheck x = filled();
        for (int cert = 0; cert < 3; cert++) {
            for (int field : others) {
                Due.same("getField(" + cert + ", " + field + ")", x.getField(cert, field), NO_VALUE);
            }
        }
    }

    private static void noValueAsATime() {
        CertPathCheck x = new CertPathCheck(2);
        x.addCert(0, 0, NO_VALUE, 5);
        x.addCert(0, 0, 5, NO_VALUE);
        Due.same("NO_VALUE", NO_VALUE, -2147483648);
        Due.same("notBefore", x.getField(0, CertPathCheck.F_NOT_BEFORE), -2147483648);
        Due.same("notAfter beside it", x.getField(0, CertPathCheck.F_NOT_AFTER), 5);
        Due.same("notBefore beside it", x.getField(1, CertPathCheck.F_NOT_BEFORE), 5);
        Due.same("notAfter", x.getField(1, CertPathCheck.F_NOT_AFTER), -2147483648);
    }
}

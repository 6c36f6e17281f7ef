import java.util.Map;

/** Promise 4: addCert. */
public final class AddCertTest {
    public static void main(String[] args) {
        Due.sentence("answers -1 and changes nothing if count == capacity", AddCertTest::fullList);
        Due.sentence("or if issuer or subject is not a name", AddCertTest::notNames);
        Due.sentence("appends a new certificate at position count with the given issuer, subject, notBefore and "
                + "notAfter", AddCertTest::appended);
        Due.sentence("any ints, in any order; notBefore greater than notAfter is accepted", AddCertTest::anyTimes);
        Due.sentence("all other parts at their defaults", AddCertTest::defaults);
        Due.sentence("increases count by 1, resets the last result, and answers the position it used (the old count)",
                AddCertTest::countAndPosition);
        Due.sentence("Existing certificates, the anchor, U and the initial flags do not change.",
                AddCertTest::nothingElse);
        Due.end();
    }

    private static void fullList() {
        for (int capacity = 1; capacity <= 8; capacity++) {
            CertPathCheck x = new CertPathCheck(capacity);
            for (int cert = 0; cert < capacity; cert++) {
                Due.same("addCert", x.addCert(cert, cert + 1, 0, Paths.LATE - cert), cert);
                x.setBasic(cert, 1, -1);
                x.addPolicy(cert, 3);
            }
            Paths.passes("the full list", x, 8, 8);
            for (int k = 0; k < 20; k++) {
                Calls.refused("addCert when full", x, () -> x.addCert(1, 2, 3, 4) != -1);
            }
            Calls.refused("a wrong name when full", x, () -> x.addCert(0x10, 2, 3, 4) != -1);
            x.removeLast();
            Due.same("once one is gone", x.addCert(1, 2, 3, 4), capacity - 1);
            Due.same("full again", x.addCert(1, 2, 3, 4), -1);
        }
    }

    private static void notNames() {
        for (int n = 0; n <= 7; n++) {
            CertPathCheck x = Paths.policied(n);
            for (int value : Calls.notNames()) {
                Calls.refused("issuer " + value, x, () -> x.addCert(value, 1, 0, 1) != -1);
                Calls.refused("subject " + value, x, () -> x.addCert(1, value, 0, 1) != -1);
                Calls.refused("both " + value, x, () -> x.addCert(value, value, 0, 1) != -1);
            }
        }
    }

    private static void appended() {
        CertPathCheck x = new CertPathCheck(8);
        int[][] rows = {{0, 0, 0, 0}, {0xFFFF, 0, -1, 1}, {0, 0xFFFF, 1, 2}, {1, 2, 3, 4}, {0x4321, 0x1234, 5, 6},
            {0xF, 0xF, 7, 8}, {0x21, 0x321, 9, 10}, {2, 1, 11, 12}};
        for (int cert = 0; cert < 8; cert++) {
            int[] row = rows[cert];
            x.addCert(row[0], row[1], row[2], row[3]);
            for (int before = 0; before <= cert; before++) {
                for (int field = 0; field <= 3; field++) {
                    Due.same(Reading.field(before, field), x.getField(before, field), rows[before][field]);
                }
            }
        }
    }

    private static void anyTimes() {
        int[] times = {Calls.LEAST, Calls.LEAST + 1, -1, 0, 1, Calls.GREATEST - 1, Calls.GREATEST};
        for (int from : times) {
            for (int to : times) {
                CertPathCheck x = new CertPathCheck(1);
                Due.same("addCert(.., " + from + ", " + to + ")", x.addCert(0, 0, from, to), 0);
                Due.same("notBefore", x.getField(0, CertPathCheck.F_NOT_BEFORE), from);
                Due.same("notAfter", x.getField(0, CertPathCheck.F_NOT_AFTER), to);
            }
        }
    }

    private static void defaults() {
        for (int at = 0; at < 8; at++) {
            CertPathCheck x = Full.path(at);
            x.addCert(0x21, 0x4321, -5, 77);
            CertificatesTest.isNew("at " + at, x, at, 0x21, 0x4321, -5, 77);
        }
    }

    private static void countAndPosition() {
        for (int count = 0; count < 8; count++) {
            CertPathCheck x = Paths.policied(count);
            for (int round = 0; round < 3; round++) {
                x.validate(Paths.TIME);
                Due.same("addCert to " + count, x.addCert(1, 1, 0, 100), count);
                Paths.isReset("addCert to " + count, x);
                Due.same("count", x.getField(-1, CertPathCheck.G_COUNT), count + 1);
                x.removeLast();
            }
        }
    }

    private static void nothingElse() {
        for (int at = 0; at < 8; at++) {
            CertPathCheck x = Full.path(at);
            Map<String, Integer> before = Reading.of(x);
            x.addCert(0x21, 0x4321, -5, 77);
            Map<String, Integer> after = Reading.of(x);
            Due.changed("addCert at " + at, Reading.without(before, at), Reading.without(after, at), "count");
        }
    }
}

import java.util.Map;

/** Promise 5: removeLast. */
public final class RemoveLastTest {
    public static void main(String[] args) {
        Due.sentence("answers false and changes nothing if count == 0", RemoveLastTest::emptyList);
        Due.sentence("removes the certificate at position count-1, decreases count by 1, resets the last result, and "
                + "answers true", RemoveLastTest::oneByOne);
        Due.sentence("The other certificates are unchanged.", RemoveLastTest::nothingElse);
        Due.sentence("The removed certificate can no longer be read", RemoveLastTest::notRead);
        Due.sentence("a later addCert at that position creates a new certificate", RemoveLastTest::newOneThere);
        Due.sentence("No policies, mappings, constraints or subtrees of the removed certificate remain.",
                RemoveLastTest::nothingRemains);
        Due.end();
    }

    private static void emptyList() {
        CertPathCheck x = new CertPathCheck(8);
        Map<String, Integer> before = Reading.of(x);
        Due.no("on a new object", x.removeLast());
        Due.changed("on a new object", before, Reading.of(x));
        Calls.refused("after an empty validate", x, x::removeLast);

        CertPathCheck emptied = Paths.policied(8);
        for (int k = 0; k < 8; k++) {
            emptied.removeLast();
        }
        for (int k = 0; k < 20; k++) {
            Calls.refused("on an emptied list", emptied, emptied::removeLast);
        }
        Due.same("the next position", emptied.addCert(1, 2, 0, 0), 0);
    }

    private static void oneByOne() {
        CertPathCheck x = Paths.policied(8);
        for (int last = 7; last >= 0; last--) {
            x.validate(Paths.TIME);
            Due.yes("removeLast", x.removeLast());
            Paths.isReset("removeLast", x);
            Due.same("count", x.getField(-1, CertPathCheck.G_COUNT), last);
            for (int cert = 0; cert < 8; cert++) {
                int due = cert < last ? cert + 2 : CertPathCheck.NO_VALUE;
                Due.same("subject at " + cert, x.getField(cert, CertPathCheck.F_SUBJECT), due);
            }
        }
    }

    private static void nothingElse() {
        CertPathCheck x = Full.path(8);
        for (int last = 7; last >= 0; last--) {
            Map<String, Integer> before = Reading.of(x);
            x.removeLast();
            Map<String, Integer> after = Reading.of(x);
            Due.changed("removeLast of " + last, Reading.without(before, last), Reading.without(after, last), "count");
        }
    }

    private static void notRead() {
        CertPathCheck x = Full.path(8);
        for (int cert = 7; cert >= 0; cert--) {
            x.removeLast();
            for (int field = 0; field <= 11; field++) {
                Due.same(Reading.field(cert, field), x.getField(cert, field), CertPathCheck.NO_VALUE);
            }
            for (int s = 1; s <= 15; s++) {
                Due.same(Reading.targets(cert, s), x.getMappingTargets(cert, s), 0);
            }
            for (int k = 0; k < 4; k++) {
                Due.same(Reading.subtree(cert, 0, k), x.getSubtree(cert, CertPathCheck.PERMITTED, k), -1);
                Due.same(Reading.subtree(cert, 1, k), x.getSubtree(cert, CertPathCheck.EXCLUDED, k), -1);
            }
        }
    }

    private static void newOneThere() {
        CertPathCheck x = Full.path(8);
        for (int down = 7; down >= 0; down--) {
            for (int cert = 7; cert >= down; cert--) {
                x.removeLast();
            }
            for (int cert = down; cert < 8; cert++) {
                Due.same("addCert again", x.addCert(0x11, 0x12, 9, 8), cert);
                CertificatesTest.isNew("at " + cert + " again", x, cert, 0x11, 0x12, 9, 8);
                Full.fill(x, cert);
            }
        }
    }

    /** The certificate added in place of a full one is read, written and validated as one that was never there. */
    private static void nothingRemains() {
        for (int at = 0; at < 8; at++) {
            CertPathCheck used = Paths.chain(at);
            CertPathCheck fresh = Paths.chain(at);
            Paths.append(used, 9);
            Full.fill(used, at);
            used.addSubtree(at, CertPathCheck.EXCLUDED, 0);
            used.validate(Paths.TIME);
            used.removeLast();
            for (CertPathCheck x : new CertPathCheck[] {used, fresh}) {
                Paths.append(x, 0x21);
                x.addSubtree(at, CertPathCheck.PERMITTED, 0x21);
                x.addSubtree(at, CertPathCheck.EXCLUDED, 0x21);
            }
            Due.changed("readings at " + at, Reading.of(fresh), Reading.of(used));
            for (CertPathCheck x : new CertPathCheck[] {used, fresh}) {
                x.validate(Paths.TIME);
            }
            Due.changed("leaf at " + at, Reading.of(fresh), Reading.of(used));
            Paths.passes("the leaf has no policies", used, 0, 0);
            if (at < 7) {
                Paths.append(used, 0x22);
                Paths.fails("its own subtrees alone bind", used, CertPathCheck.ERR_NAME, at + 1);
            }
        }
    }
}

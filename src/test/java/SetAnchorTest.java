/** Promise 2: setAnchor. */
public final class SetAnchorTest {
    public static void main(String[] args) {
        Due.sentence("answers false and changes nothing if name is not a name", SetAnchorTest::notNames);
        Due.sentence("Otherwise it stores name as the trust anchor's name, resets the last result, and answers true",
                SetAnchorTest::stored);
        Due.sentence("even if the anchor already had that value", SetAnchorTest::sameAgain);
        Due.sentence("Certificates, U and the initial flags do not change.", SetAnchorTest::nothingElse);
        Due.end();
    }

    private static void notNames() {
        for (int n = 0; n <= 8; n += 4) {
            CertPathCheck x = Paths.policied(n);
            for (int value : Calls.notNames()) {
                Calls.refused("setAnchor(" + value + ")", x, () -> x.setAnchor(value));
            }
        }
    }

    private static void stored() {
        for (int name : new int[] {0, 1, 0xF, 0x11, 0xFF, 0x321, 0x4321, 0xFFFF}) {
            CertPathCheck x = new CertPathCheck(1);
            x.setAnchor(2);
            x.addCert(name, 1, 0, 100);
            Calls.accepted("setAnchor(" + name + ")", x, () -> x.setAnchor(name), "anchor");
            Due.same("anchor", x.getField(-1, CertPathCheck.G_ANCHOR), name);
            Paths.passes("issued by " + name, x, 0, 0);
        }
    }

    private static void sameAgain() {
        CertPathCheck x = Paths.policied(3);
        Calls.accepted("the same anchor", x, () -> x.setAnchor(Paths.ANCHOR));
        Calls.accepted("and again", x, () -> x.setAnchor(Paths.ANCHOR));
        CertPathCheck empty = new CertPathCheck(1);
        Calls.accepted("the starting anchor", empty, () -> empty.setAnchor(0));
    }

    private static void nothingElse() {
        for (int n = 0; n <= 8; n++) {
            CertPathCheck x = Full.path(n);
            Calls.accepted("another anchor, " + n + " certificates", x, () -> x.setAnchor(0x4321), "anchor");
        }
    }
}

/** Promise 6: setBasic. */
public final class SetBasicTest {
    public static void main(String[] args) {
        Due.sentence("answers false and changes nothing unless 0 <= cert < count",
                () -> Calls.onlyForHeldCerts("setBasic", (x, cert) -> x.setBasic(cert, 6, 3)));
        Due.sentence("flags is in 0..7", SetBasicTest::flags);
        Due.sentence("pathLen is in -1..15", SetBasicTest::pathLens);
        Due.sentence("replaces basic and pathLen of certificate cert with flags and pathLen", SetBasicTest::replaced);
        Due.sentence("resets the last result, and answers true", SetBasicTest::resets);
        Due.sentence("Every other part of every certificate is unchanged.", SetBasicTest::nothingElse);
        Due.end();
    }

    private static void flags() {
        CertPathCheck x = Paths.policied(3);
        for (int flags : Calls.NOT_FLAGS) {
            for (int pathLen : new int[] {-1, 0, 15, -2, 16}) {
                Calls.refused("setBasic(1, " + flags + ", " + pathLen + ")", x, () -> x.setBasic(1, flags, pathLen));
            }
        }
        Due.yes("the least", x.setBasic(1, 0, 3));
        Due.yes("the greatest", x.setBasic(1, 7, 3));
    }

    private static void pathLens() {
        CertPathCheck x = Paths.policied(3);
        for (int pathLen : Calls.NOT_NUMBERS) {
            for (int flags : new int[] {0, 7, -1, 8}) {
                Calls.refused("setBasic(1, " + flags + ", " + pathLen + ")", x, () -> x.setBasic(1, flags, pathLen));
            }
        }
        Due.yes("none", x.setBasic(1, 3, -1));
        Due.yes("the least", x.setBasic(1, 3, 0));
        Due.yes("the greatest", x.setBasic(1, 3, 15));
    }

    private static void replaced() {
        CertPathCheck x = Paths.policied(8);
        for (int cert = 0; cert < 8; cert++) {
            for (int flags = 7; flags >= 0; flags--) {
                for (int pathLen = 15; pathLen >= -1; pathLen--) {
                    x.setBasic(cert, flags, pathLen);
                    Due.same("basic", x.getField(cert, CertPathCheck.F_BASIC), flags);
                    Due.same("pathLen", x.getField(cert, CertPathCheck.F_PATH_LEN), pathLen);
                }
            }
        }
    }

    private static void resets() {
        CertPathCheck x = Paths.policied(3);
        Calls.accepted("setBasic", x, () -> x.setBasic(1, 7, 3), Reading.field(1, 4), Reading.field(1, 5));
        Calls.accepted("the same again", x, () -> x.setBasic(1, 7, 3));
        Calls.accepted("other flags", x, () -> x.setBasic(1, 5, 3), Reading.field(1, 4));
        Calls.accepted("another pathLen", x, () -> x.setBasic(1, 5, -1), Reading.field(1, 5));
    }

    private static void nothingElse() {
        CertPathCheck x = Full.path(8);
        for (int cert = 0; cert < 8; cert++) {
            int at = cert;
            Calls.accepted("setBasic of " + cert, x, () -> x.setBasic(at, 1, 8),
                    Reading.field(cert, CertPathCheck.F_BASIC), Reading.field(cert, CertPathCheck.F_PATH_LEN));
        }
    }
}

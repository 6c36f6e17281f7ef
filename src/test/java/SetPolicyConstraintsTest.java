/** Promise 9: setPolicyConstraints. */
public final class SetPolicyConstraintsTest {
    public static void main(String[] args) {
        Due.sentence("answers false and changes nothing unless 0 <= cert < count", () -> Calls.onlyForHeldCerts(
                "setPolicyConstraints", (x, cert) -> x.setPolicyConstraints(cert, 4, 5, 6)));
        Due.sentence("each of the three is in -1..15", SetPolicyConstraintsTest::ranges);
        Due.sentence("replaces requireExplicit, inhibitMapping and inhibitAny of cert",
                SetPolicyConstraintsTest::replaced);
        Due.sentence("resets the last result, and answers true", SetPolicyConstraintsTest::resets);
        Due.sentence("Nothing else changes.", SetPolicyConstraintsTest::nothingElse);
        Due.end();
    }

    private static void ranges() {
        CertPathCheck x = Paths.policied(3);
        for (int wrong : Calls.NOT_NUMBERS) {
            for (int other : new int[] {-1, 0, 15}) {
                String what = "setPolicyConstraints with " + wrong + " and " + other;
                Calls.refused(what, x, () -> x.setPolicyConstraints(1, wrong, other, other));
                Calls.refused(what, x, () -> x.setPolicyConstraints(1, other, wrong, other));
                Calls.refused(what, x, () -> x.setPolicyConstraints(1, other, other, wrong));
                Calls.refused(what, x, () -> x.setPolicyConstraints(1, wrong, wrong, other));
                Calls.refused(what, x, () -> x.setPolicyConstraints(1, wrong, other, wrong));
                Calls.refused(what, x, () -> x.setPolicyConstraints(1, other, wrong, wrong));
            }
            Calls.refused("all three " + wrong, x, () -> x.setPolicyConstraints(1, wrong, wrong, wrong));
        }
        for (int end : new int[] {-1, 0, 15}) {
            Due.yes("requireExplicit " + end, x.setPolicyConstraints(1, end, 4, 4));
            Due.yes("inhibitMapping " + end, x.setPolicyConstraints(1, 4, end, 4));
            Due.yes("inhibitAny " + end, x.setPolicyConstraints(1, 4, 4, end));
        }
    }

    private static void replaced() {
        CertPathCheck x = Paths.policied(8);
        for (int cert = 0; cert < 8; cert++) {
            for (int k = 0; k < 17 * 17 * 17; k += 5) {
                int[] given = {k % 17 - 1, k / 17 % 17 - 1, k / 289 - 1};
                x.setPolicyConstraints(cert, given[0], given[1], given[2]);
                Due.same("requireExplicit", x.getField(cert, CertPathCheck.F_REQUIRE_EXPLICIT), given[0]);
                Due.same("inhibitMapping", x.getField(cert, CertPathCheck.F_INHIBIT_MAPPING), given[1]);
                Due.same("inhibitAny", x.getField(cert, CertPathCheck.F_INHIBIT_ANY), given[2]);
            }
        }
    }

    private static void resets() {
        CertPathCheck x = Paths.policied(3);
        Calls.accepted("the values already there", x, () -> x.setPolicyConstraints(1, -1, -1, -1));
        Calls.accepted("one", x, () -> x.setPolicyConstraints(1, 15, -1, -1), Reading.field(1, 7));
        Calls.accepted("another", x, () -> x.setPolicyConstraints(1, 15, 0, -1), Reading.field(1, 8));
        Calls.accepted("the third", x, () -> x.setPolicyConstraints(1, 15, 0, 7), Reading.field(1, 9));
        Calls.accepted("the same again", x, () -> x.setPolicyConstraints(1, 15, 0, 7));
        Calls.accepted("back to none", x, () -> x.setPolicyConstraints(1, -1, -1, -1),
                Reading.field(1, 7), Reading.field(1, 8), Reading.field(1, 9));
    }

    private static void nothingElse() {
        CertPathCheck x = Full.path(8);
        for (int cert = 0; cert < 8; cert++) {
            int at = cert;
            Calls.accepted("of " + cert, x, () -> x.setPolicyConstraints(at, 3, 4, 5),
                    Reading.field(cert, 7), Reading.field(cert, 8), Reading.field(cert, 9));
        }
    }
}

/** Promise 7: addPolicy. */
public final class AddPolicyTest {
    public static void main(String[] args) {
        Due.sentence("answers false and changes nothing unless 0 <= cert < count",
                () -> Calls.onlyForHeldCerts("addPolicy", (x, cert) -> x.addPolicy(cert, 7)));
        Due.sentence("policy is in 0..15", AddPolicyTest::policies);
        Due.sentence("sets bit policy in the policies of cert (policy 0 sets the ANY_POLICY bit), leaves the other "
                + "bits as they were", AddPolicyTest::bitByBit);
        Due.sentence("resets the last result, and answers true, also when the bit was already set",
                AddPolicyTest::alreadySet);
        Due.sentence("Policies cannot be cleared except by removing the certificate.", AddPolicyTest::neverCleared);
        Due.end();
    }

    private static void policies() {
        CertPathCheck x = Paths.policied(3);
        for (int policy : Calls.NOT_POLICIES) {
            for (int cert = 0; cert < 3; cert++) {
                int at = cert;
                Calls.refused("addPolicy(" + cert + ", " + policy + ")", x, () -> x.addPolicy(at, policy));
            }
        }
        for (int policy = 0; policy <= 15; policy++) {
            Due.yes("addPolicy(1, " + policy + ")", x.addPolicy(1, policy));
        }
    }

    private static void bitByBit() {
        for (int first = 0; first <= 15; first++) {
            CertPathCheck x = Paths.chain(3);
            int mask = 0;
            for (int k = 0; k <= 15; k++) {
                int policy = (first + 7 * k) % 16;
                mask |= 1 << policy;
                Calls.accepted("addPolicy " + policy, x, () -> x.addPolicy(1, policy), Reading.field(1, 6));
                Due.same("policies", x.getField(1, CertPathCheck.F_POLICIES), mask);
            }
        }
    }

    private static void alreadySet() {
        CertPathCheck x = Paths.policied(3);
        for (int policy = 0; policy <= 15; policy++) {
            int added = policy;
            x.addPolicy(2, policy);
            int mask = x.getField(2, CertPathCheck.F_POLICIES);
            Calls.accepted("addPolicy again " + policy, x, () -> x.addPolicy(2, added));
            Calls.accepted("and again " + policy, x, () -> x.addPolicy(2, added));
            Due.same("policies", x.getField(2, CertPathCheck.F_POLICIES), mask);
        }
    }

    private static void neverCleared() {
        CertPathCheck x = Paths.chain(3);
        for (int policy = 0; policy <= 15; policy++) {
            x.addPolicy(2, policy);
        }
        x.setAnchor(0);
        x.setInitial(0, 7);
        x.addCert(1, 1, 0, 0);
        x.removeLast();
        x.setBasic(2, 0, -1);
        x.addPolicy(2, 0);
        x.addPolicy(2, 16);
        x.addMapping(2, 1, 1);
        x.setPolicyConstraints(2, -1, -1, -1);
        x.addSubtree(2, 0, 0);
        x.validate(Paths.TIME);
        Due.same("after every call", x.getField(2, CertPathCheck.F_POLICIES), 65535);
        x.removeLast();
        Paths.append(x, 4);
        Due.same("after its removal", x.getField(2, CertPathCheck.F_POLICIES), 0);
    }
}

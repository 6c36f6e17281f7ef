import java.util.Map;

/** Promise 15: getSubtree. */
public final class GetSubtreeTest {
    public static void main(String[] args) {
        Due.sentence("`getSubtree(cert, kind, k)` changes nothing.", GetSubtreeTest::changesNothing);
        Due.sentence("It answers the k-th (counting from 0, in order added) subtree of kind kind (PERMITTED or "
                + "EXCLUDED) of cert.", GetSubtreeTest::inOrder);
        Due.sentence("It answers -1 unless 0 <= cert < count", GetSubtreeTest::otherCerts);
        Due.sentence("kind is 0 or 1", GetSubtreeTest::otherKinds);
        Due.sentence("0 <= k is less than cert's number of subtrees of that kind", GetSubtreeTest::otherPlaces);
        Due.end();
    }

    private static int name(int cert, int kind, int k) {
        return 1 + 16 * (cert + 1) + 256 * (kind + 1) + 4096 * (k + 1);
    }

    /** Eight certificates with as many subtrees of either kind. */
    private static CertPathCheck with(int permitted, int excluded) {
        CertPathCheck x = Paths.policied(8);
        for (int cert = 7; cert >= 0; cert--) {
            x.setPolicyConstraints(cert, 15, 15, 15);
            for (int k = 0; k < permitted; k++) {
                x.addSubtree(cert, CertPathCheck.PERMITTED, name(cert, 0, k));
            }
            for (int k = 0; k < excluded; k++) {
                x.addSubtree(cert, CertPathCheck.EXCLUDED, name(cert, 1, k));
            }
        }
        return x;
    }

    private static void changesNothing() {
        CertPathCheck x = with(0, 4);
        for (int time : new int[] {Paths.TIME, Paths.LATE}) {
            x.validate(time);
            Map<String, Integer> before = Reading.of(x);
            for (int cert = -2; cert <= 9; cert++) {
                for (int kind = -1; kind <= 2; kind++) {
                    for (int k = -1; k <= 5; k++) {
                        x.getSubtree(cert, kind, k);
                    }
                }
            }
            Due.changed("getSubtree", before, Reading.of(x));
        }
    }

    private static void inOrder() {
        CertPathCheck x = with(4, 4);
        for (int cert = 0; cert < 8; cert++) {
            for (int kind = 0; kind <= 1; kind++) {
                for (int k = 0; k < 4; k++) {
                    Due.same(Reading.subtree(cert, kind, k), x.getSubtree(cert, kind, k), name(cert, kind, k));
                }
            }
        }
    }

    private static void otherCerts() {
        for (int count = 0; count <= 8; count++) {
            CertPathCheck x = with(4, 4);
            for (int k = count; k < 8; k++) {
                x.removeLast();
            }
            for (int cert : Calls.notCerts(count)) {
                for (int kind = 0; kind <= 1; kind++) {
                    for (int k = 0; k < 4; k++) {
                        Due.same(Reading.subtree(cert, kind, k), x.getSubtree(cert, kind, k), -1);
                    }
                }
            }
        }
    }

    private static void otherKinds() {
        CertPathCheck x = with(4, 4);
        int[] others = {Calls.LEAST, Calls.LEAST + 1, -8, -2, -1, 2, 3, 4, 8, 1 << 16, 1 << 30, Calls.GREATEST};
        for (int cert = 0; cert < 8; cert++) {
            for (int kind : others) {
                for (int k = -9; k <= 9; k++) {
                    Due.same(Reading.subtree(cert, kind, k), x.getSubtree(cert, kind, k), -1);
                }
            }
        }
    }

    private static void otherPlaces() {
        int[] far = {Calls.LEAST, Calls.LEAST + 1, -9, -4, -1, 4, 5, 8, 63, 64, Calls.GREATEST};
        for (int permitted = 0; permitted <= 4; permitted++) {
            for (int excluded = 0; excluded <= 4; excluded++) {
                CertPathCheck x = with(permitted, excluded);
                for (int cert = 0; cert < 8; cert++) {
                    for (int k : far) {
                        Due.same("permitted " + k, x.getSubtree(cert, 0, k), -1);
                        Due.same("excluded " + k, x.getSubtree(cert, 1, k), -1);
                    }
                    for (int k = 0; k < 4; k++) {
                        int duePermitted = k < permitted ? name(cert, 0, k) : -1;
                        int dueExcluded = k < excluded ? name(cert, 1, k) : -1;
                        Due.same("permitted " + k, x.getSubtree(cert, 0, k), duePermitted);
                        Due.same("excluded " + k, x.getSubtree(cert, 1, k), dueExcluded);
                    }
                }
            }
        }
    }
}

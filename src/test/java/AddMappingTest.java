/** Promise 8: addMapping. */
public final class AddMappingTest {
    private static final int[] NOT_SPECIFIC = {0, Calls.LEAST, Calls.LEAST + 1, -32, -31, -17, -16, -15, -1, 16, 17, 31,
        32, 33, 47, 64, Calls.GREATEST};

    public static void main(String[] args) {
        Due.sentence("answers false and changes nothing unless 0 <= cert < count",
                () -> Calls.onlyForHeldCerts("addMapping", (x, cert) -> x.addMapping(cert, 7, 8)));
        Due.sentence("s and t are both in 1..15", AddMappingTest::policies);
        Due.sentence("sets bit t in T(s) of cert, leaves all other bits of all T masks as they were",
                AddMappingTest::bitByBit);
        Due.sentence("resets the last result, and answers true", AddMappingTest::resets);
        Due.sentence("Mappings of the leaf are stored but validate does not use them.", AddMappingTest::leaf);
        Due.end();
    }

    private static void policies() {
        CertPathCheck x = Paths.policied(3);
        for (int wrong : NOT_SPECIFIC) {
            for (int right : new int[] {1, 3, 15}) {
                Calls.refused("addMapping(1, " + wrong + ", " + right + ")", x, () -> x.addMapping(1, wrong, right));
                Calls.refused("addMapping(1, " + right + ", " + wrong + ")", x, () -> x.addMapping(1, right, wrong));
            }
            Calls.refused("addMapping(1, " + wrong + ", the same)", x, () -> x.addMapping(1, wrong, wrong));
        }
        for (int end : new int[] {1, 15}) {
            Due.yes("s and t " + end, x.addMapping(1, end, end));
            Due.yes("s " + end, x.addMapping(1, end, 16 - end));
        }
    }

    private static void bitByBit() {
        for (int cert = 0; cert < 8; cert += 7) {
            CertPathCheck x = Paths.policied(8);
            int at = cert;
            for (int s = 1; s <= 15; s++) {
                for (int t = 1; t <= 15; t++) {
                    int from = s;
                    int to = t;
                    Calls.accepted("addMapping(" + cert + ", " + s + ", " + t + ")", x,
                            () -> x.addMapping(at, from, to), Reading.targets(cert, s));
                    Due.same("T(" + s + ")", x.getMappingTargets(cert, s), (2 << t) - 2);
                }
            }
        }
    }

    private static void resets() {
        CertPathCheck x = Paths.policied(3);
        Calls.accepted("addMapping", x, () -> x.addMapping(1, 3, 5), Reading.targets(1, 3));
        Calls.accepted("the same again", x, () -> x.addMapping(1, 3, 5));
        Calls.accepted("of a policy to itself", x, () -> x.addMapping(1, 5, 5), Reading.targets(1, 5));
    }

    /** The same mapping counts as soon as another certificate follows, and no longer once that one is gone. */
    private static void leaf() {
        CertPathCheck x = Paths.policied(2);
        Calls.accepted("addMapping of the leaf", x, () -> x.addMapping(1, 3, 7), Reading.targets(1, 3));
        Paths.passes("3 to 7 at the leaf", x, 8, 8 + 32);
        Paths.append(x, 4);
        Paths.policies(x, 2, 7);
        Paths.passes("3 to 7 before the leaf", x, 8, 8);
        x.removeLast();
        Paths.passes("at the leaf again", x, 8, 8 + 32);

        CertPathCheck any = Paths.chain(1);
        any.addPolicy(0, 0);
        any.addMapping(0, 6, 7);
        Paths.passes("no policy is opened at the leaf", any, 1, 1);
    }
}

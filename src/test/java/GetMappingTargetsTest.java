import java.util.Map;

/** Promise 14: getMappingTargets. */
public final class GetMappingTargetsTest {
    public static void main(String[] args) {
        Due.sentence("`getMappingTargets(cert, s)` changes nothing.", GetMappingTargetsTest::changesNothing);
        Due.sentence("It answers the mask T(s) of cert when 0 <= cert < count and s is in 1..15",
                GetMappingTargetsTest::masks);
        Due.sentence("and 0 otherwise", GetMappingTargetsTest::otherArguments);
        Due.sentence("Bit 0 of an answer is never set.", GetMappingTargetsTest::bitZero);
        Due.end();
    }

    private static void changesNothing() {
        CertPathCheck x = Full.path(8);
        for (int time : new int[] {Paths.TIME, Paths.LATE}) {
            x.validate(time);
            Map<String, Integer> before = Reading.of(x);
            for (int cert = -2; cert <= 9; cert++) {
                for (int s = -1; s <= 17; s++) {
                    x.getMappingTargets(cert, s);
                }
            }
            Due.changed("getMappingTargets", before, Reading.of(x));
        }
    }

    private static void masks() {
        CertPathCheck x = GetFieldTest.filled();
        for (int cert = 0; cert < 3; cert++) {
            for (int s = 1; s <= 15; s++) {
                int due = s == 1 + cert ? 1 << 15 - cert : s == 15 ? 1 << 1 + cert : 0;
                Due.same(Reading.targets(cert, s), x.getMappingTargets(cert, s), due);
            }
        }
    }

    private static void otherArguments() {
        CertPathCheck x = Full.path(8);
        otherArguments(x, 8);
        for (int count = 7; count >= 0; count--) {
            x.removeLast();
            otherArguments(x, count);
        }
    }

    private static void otherArguments(CertPathCheck x, int count) {
        for (int cert : Calls.notCerts(count)) {
            for (int s = -17; s <= 33; s++) {
                Due.same("getMappingTargets(" + cert + ", " + s + ")", x.getMappingTargets(cert, s), 0);
            }
        }
        int[] others = {Calls.LEAST, Calls.LEAST + 1, -33, -16, -15, -1, 0, 16, 17, 31, 32, 33, 128, Calls.GREATEST};
        for (int cert = 0; cert < count; cert++) {
            for (int s : others) {
                Due.same("getMappingTargets(" + cert + ", " + s + ")", x.getMappingTargets(cert, s), 0);
            }
            Due.same("s = 1", x.getMappingTargets(cert, 1), 65534);
            Due.same("s = 15", x.getMappingTargets(cert, 15), 65534);
        }
    }

    private static void bitZero() {
        CertPathCheck x = Full.path(8);
        for (int t : new int[] {0, 16, 32, -32, Calls.LEAST}) {
            for (int cert = 0; cert < 8; cert++) {
                for (int s = 0; s <= 16; s++) {
                    x.addMapping(cert, s, t);
                }
            }
        }
        for (int cert = -1; cert <= 8; cert++) {
            for (int s = -1; s <= 17; s++) {
                Due.same("bit 0", x.getMappingTargets(cert, s) & 1, 0);
            }
        }
    }
}

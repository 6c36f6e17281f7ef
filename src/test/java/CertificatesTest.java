import java.util.ArrayList;
import java.util.List;

/** What it is, the policies and the certificates: what a certificate holds, from the least to the most. */
public final class CertificatesTest {
    private static final int EXPLICIT = CertPathCheck.INIT_EXPLICIT;

    public static void main(String[] args) {
        Due.sentence("held in a small list of at most eight certificates", CertificatesTest::eightCertificates);
        Due.sentence("A policy is 0..15, and 0 is ANY_POLICY.", CertificatesTest::anyPolicy);
        Due.sentence("A policy set is a 16-bit mask: bit p stands for policy p.", CertificatesTest::bitsOfMasks);
        Due.sentence("at positions 0..count-1 (count <= capacity)", CertificatesTest::positions);
        Due.sentence("Position 0 is issued by the trust anchor; position count-1 is the leaf.", CertificatesTest::ends);
        Due.sentence("notBefore and notAfter (any ints)", CertificatesTest::anyTimes);
        Due.sentence("basic (flags 0..7, see BASIC_*)", CertificatesTest::basicFlags);
        Due.sentence("pathLen (-1 = none, or 0..15)", CertificatesTest::noPathLength);
        Due.sentence("requireExplicit, inhibitMapping and inhibitAny (each -1 = none, or 0..15)",
                CertificatesTest::noConstraints);
        Due.sentence("the empty mask means the certificate has no policy extension", CertificatesTest::emptyMask);
        Due.sentence("for each issuer-domain policy s in 1..15, a mask T(s) of subject-domain policies t in 1..15",
                CertificatesTest::everyMapping);
        Due.sentence("up to 4 permitted and up to 4 excluded subtrees", CertificatesTest::fourOfEachKind);
        Due.sentence("kept in the order added; duplicates allowed", CertificatesTest::orderOfSubtrees);
        Due.sentence("A new certificate has basic 0, pathLen -1, policies 0, all T(s) = 0, all three constraints -1, "
                + "and no subtrees.", CertificatesTest::newCertificate);
        Due.sentence("Certificate i is self-issued when issuer(i) == subject(i).", CertificatesTest::selfIssued);
        Due.sentence("Every stored part can be read back.", CertificatesTest::everyPartOfAFullPath);
        Due.end();
    }

    private static void eightCertificates() {
        for (int capacity : new int[] {8, 9, 100, Calls.GREATEST}) {
            CertPathCheck x = new CertPathCheck(capacity);
            for (int cert = 0; cert < 8; cert++) {
                x.addCert(cert, cert + 1, 0, 100);
                x.setBasic(cert, CertPathCheck.BASIC_CA, -1);
            }
            Due.same("a ninth", x.addCert(8, 9, 0, 100), -1);
            Due.same("count", x.getField(-1, CertPathCheck.G_COUNT), 8);
            Paths.passes("eight", x, 0, 0);
        }
    }

    private static void anyPolicy() {
        Due.same("ANY_POLICY", CertPathCheck.ANY_POLICY, 0);
        for (int ca = 0; ca <= 15; ca++) {
            for (int leaf = 0; leaf <= 15; leaf++) {
                CertPathCheck x = Paths.chain(2);
                x.addPolicy(0, ca);
                x.addPolicy(1, leaf);
                int kept = ca == 0 ? leaf : ca;
                int due = ca == leaf || ca == 0 || leaf == 0 ? 1 << kept : 0;
                Paths.passes("policy " + ca + ", then " + leaf, x, due, due);
            }
        }
    }

    private static void bitsOfMasks() {
        for (int policy = 0; policy <= 15; policy++) {
            CertPathCheck x = Paths.chain(1);
            Due.yes("addPolicy " + policy, x.addPolicy(0, policy));
            Due.same("mask of " + policy, x.getField(0, CertPathCheck.F_POLICIES), 1 << policy);
            int other = policy == 7 ? 8 : 7;
            x.addPolicy(0, other);
            Due.yes("U " + policy, x.setInitial(1 << policy, EXPLICIT));
            boolean any = policy == 0;
            int both = (1 << policy) + (1 << other);
            Paths.passes("U of " + policy + ", R of it and " + other, x, any ? both : 1 << policy, both);
        }
    }

    private static void positions() {
        for (int capacity = 1; capacity <= 8; capacity++) {
            CertPathCheck x = new CertPathCheck(capacity);
            for (int cert = 0; cert < 10; cert++) {
                int at = x.addCert(cert, cert + 1, 0, 0);
                Due.same("position", at, cert < capacity ? cert : -1);
                int count = Math.min(cert + 1, capacity);
                Due.same("count", x.getField(-1, CertPathCheck.G_COUNT), count);
                for (int k = 0; k < 10; k++) {
                    int due = k < count ? k + 1 : CertPathCheck.NO_VALUE;
                    Due.same("subject at " + k, x.getField(k, CertPathCheck.F_SUBJECT), due);
                }
            }
        }
    }

    /** The leaf alone needs no CA flag; the first alone is compared with the anchor. */
    private static void ends() {
        for (int n = 1; n <= 8; n++) {
            CertPathCheck x = Paths.chain(n);
            Paths.passes("chain of " + n, x, 0, 0);
            Due.same("the leaf's basic", x.getField(n - 1, CertPathCheck.F_BASIC), 0);
            if (n < 8) {
                x.addCert(n + 1, n + 2, 0, 100);
                Paths.fails("no longer the leaf", x, CertPathCheck.ERR_CA, n - 1);
                x.removeLast();
            }
            x.setAnchor(0xF);
            Paths.fails("another anchor", x, CertPathCheck.ERR_ISSUER, 0);
        }
    }

    private static void anyTimes() {
        int[] times = {Calls.LEAST, -1, 0, 1, Calls.GREATEST};
        for (int time : times) {
            CertPathCheck x = new CertPathCheck(1);
            x.addCert(0, 1, time, time);
            Paths.validatesAt("at its one time " + time, x, time, CertPathCheck.OK, -1, 0, 0);
            for (int other : times) {
                Due.yes(other + " in " + time, (x.validate(other) == CertPathCheck.OK) == (other == time));
            }
        }
    }

    private static void basicFlags() {
        Due.same("all three", CertPathCheck.BASIC_CA + CertPathCheck.BASIC_KEY_USAGE
                + CertPathCheck.BASIC_KEY_CERT_SIGN, 7);
        for (int flags = -1; flags <= 8; flags++) {
            CertPathCheck x = Paths.chain(2);
            Due.yes("setBasic " + flags, x.setBasic(0, flags, -1) == (flags >= 0 && flags <= 7));
        }
    }

    /** None lets every number pass, 0 lets none pass, and 15 is more than a path can need. */
    private static void noPathLength() {
        for (int n = 2; n <= 8; n++) {
            CertPathCheck x = Paths.chain(n);
            x.setBasic(0, CertPathCheck.BASIC_CA, 15);
            Paths.passes("15", x, 0, 0);
            x.setBasic(0, CertPathCheck.BASIC_CA, -1);
            Paths.passes("none", x, 0, 0);
            x.setBasic(0, CertPathCheck.BASIC_CA, 0);
            Paths.validates("0", x, n == 2 ? 0 : CertPathCheck.ERR_PATH_LENGTH, n == 2 ? -1 : 1, 0, 0);
        }
    }

    private static void noConstraints() {
        for (int n = 2; n <= 8; n++) {
            CertPathCheck x = Paths.chain(n);
            x.setPolicyConstraints(0, 15, 15, 15);
            Paths.passes("15", x, 0, 0);
            x.setPolicyConstraints(0, -1, -1, -1);
            Paths.passes("none", x, 0, 0);
            x.setPolicyConstraints(0, 0, -1, -1);
            Paths.fails("requireExplicit 0", x, CertPathCheck.ERR_POLICY, 1);
            x = Paths.chain(n);
            for (int cert = 0; cert < n; cert++) {
                x.addPolicy(cert, 0);
            }
            Paths.passes("inhibitAny none", x, 1, 1);
            x.setPolicyConstraints(0, -1, -1, 0);
            Paths.passes("inhibitAny 0", x, 0, 0);
            x = Paths.policied(n);
            for (int cert = 1; cert < n; cert++) {
                x.addMapping(cert, 3, 3);
            }
            Paths.passes("inhibitMapping none", x, 8, 8 + 32);
            x.setPolicyConstraints(0, -1, 0, -1);
            Paths.passes("inhibitMapping 0", x, n == 2 ? 8 : 0, n == 2 ? 8 + 32 : 32);
        }
    }

    private static void emptyMask() {
        for (int without = 0; without < 4; without++) {
            CertPathCheck x = Paths.chain(4);
            for (int cert = 0; cert < 4; cert++) {
                if (cert != without) {
                    Paths.policies(x, cert, 0, 3);
                }
            }
            Paths.passes("none at " + without, x, 0, 0);
            x.setInitial(1, EXPLICIT);
            Paths.fails("none at " + without + ", explicit", x, CertPathCheck.ERR_POLICY, without);
        }
    }

    private static void everyMapping() {
        CertPathCheck x = Paths.chain(8);
        for (int cert = 0; cert < 8; cert++) {
            for (int s = 1; s <= 15; s++) {
                int mask = 0;
                for (int t = 15; t >= 1; t--) {
                    Due.yes("addMapping", x.addMapping(cert, s, t));
                    mask |= 1 << t;
                    Due.same("T(" + s + ") of " + cert, x.getMappingTargets(cert, s), mask);
                }
                Due.same("the next T", x.getMappingTargets(cert, s + 1), 0);
            }
        }
    }

    private static void fourOfEachKind() {
        CertPathCheck x = Paths.chain(8);
        for (int cert = 0; cert < 8; cert++) {
            for (int k = 0; k < 6; k++) {
                Due.yes("permitted " + k, x.addSubtree(cert, CertPathCheck.PERMITTED, 1) == k < 4);
                Due.yes("excluded " + k, x.addSubtree(cert, CertPathCheck.EXCLUDED, 2) == k < 4);
                int due = Math.min(k + 1, 4);
                Due.same("permitted count", x.getField(cert, CertPathCheck.F_PERMITTED_COUNT), due);
                Due.same("excluded count", x.getField(cert, CertPathCheck.F_EXCLUDED_COUNT), due);
            }
        }
    }

    private static void orderOfSubtrees() {
        int[][] rows = {{4, 3, 2, 1}, {1, 2, 3, 4}, {0, 0, 0, 0}, {0xFFFF, 0, 0xFFFF, 0}, {5, 5, 6, 5}};
        for (int[] names : rows) {
            for (int kind = 0; kind <= 1; kind++) {
                CertPathCheck x = Paths.chain(1);
                for (int name : names) {
                    Due.yes("addSubtree", x.addSubtree(0, kind, name));
                }
                for (int k = 0; k < 4; k++) {
                    Due.same("subtree " + k, x.getSubtree(0, kind, k), names[k]);
                }
            }
        }
    }

    static void isNew(String what, CertPathCheck x, int cert, int... given) {
        int[] due = {given[0], given[1], given[2], given[3], 0, -1, 0, -1, -1, -1, 0, 0};
        for (int field = 0; field <= 11; field++) {
            Due.same(what + ", field " + field, x.getField(cert, field), due[field]);
        }
        for (int s = 1; s <= 15; s++) {
            Due.same(what + ", T(" + s + ")", x.getMappingTargets(cert, s), 0);
        }
        for (int k = 0; k < 4; k++) {
            Due.same(what + ", permitted", x.getSubtree(cert, CertPathCheck.PERMITTED, k), -1);
            Due.same(what + ", excluded", x.getSubtree(cert, CertPathCheck.EXCLUDED, k), -1);
        }
    }

    private static void newCertificate() {
        CertPathCheck x = new CertPathCheck(8);
        for (int cert = 0; cert < 8; cert++) {
            x.addCert(3, 4, 5, 6);
            isNew("certificate " + cert, x, cert, 3, 4, 5, 6);
        }
    }

    /** A certificate before the leaf is exempt from the name check exactly if it is self-issued. */
    private static void selfIssued() {
        int[] names = {0, 0x1, 0x2, 0xF, 0x11, 0x21, 0x12, 0x111, 0x1111, 0xFFFF};
        for (int issuer : names) {
            for (int subject : names) {
                CertPathCheck x = new CertPathCheck(8);
                Paths.append(x, issuer);
                x.addSubtree(0, CertPathCheck.PERMITTED, 0x9);
                Paths.append(x, subject);
                Paths.append(x, 0x9);
                if (issuer == subject) {
                    Paths.passes(issuer + " issues itself", x, 0, 0);
                } else {
                    Paths.fails(issuer + " issues " + subject, x, CertPathCheck.ERR_NAME, 1);
                }
            }
        }
    }

    /** Writes other values into every part of eight certificates, then reads all of them. */
    private static void everyPartOfAFullPath() {
        CertPathCheck x = new CertPathCheck(8);
        List<Integer> due = new ArrayList<>();
        for (int cert = 0; cert < 8; cert++) {
            x.addCert(0x11 + cert, 0x21 + cert, -100 - cert, 200 + cert);
            x.setBasic(cert, cert, 15 - cert);
            x.addPolicy(cert, 8 + cert);
            x.setPolicyConstraints(cert, cert, cert + 1, cert + 2);
            due.addAll(List.of(0x11 + cert, 0x21 + cert, -100 - cert, 200 + cert, cert, 15 - cert, 1 << 8 + cert,
                    cert, cert + 1, cert + 2, 4, 4));
        }
        for (int cert = 7; cert >= 0; cert--) {
            for (int k = 0; k < 4; k++) {
                x.addSubtree(cert, CertPathCheck.PERMITTED, 0x1 + 16 * (cert + 1) + 256 * (k + 1));
                x.addSubtree(cert, CertPathCheck.EXCLUDED, 0x2 + 16 * (cert + 1) + 256 * (k + 1));
            }
            for (int s = 1; s <= 15; s++) {
                x.addMapping(cert, s, (cert + s) % 15 + 1);
            }
        }
        for (int cert = 0; cert < 8; cert++) {
            for (int field = 0; field < 12; field++) {
                Due.same(Reading.field(cert, field), x.getField(cert, field), due.get(12 * cert + field));
            }
            for (int k = 0; k < 4; k++) {
                int tail = 16 * (cert + 1) + 256 * (k + 1);
                Due.same("permitted", x.getSubtree(cert, CertPathCheck.PERMITTED, k), 0x1 + tail);
                Due.same("excluded", x.getSubtree(cert, CertPathCheck.EXCLUDED, k), 0x2 + tail);
            }
            for (int s = 1; s <= 15; s++) {
                Due.same(Reading.targets(cert, s), x.getMappingTargets(cert, s), 1 << (cert + s) % 15 + 1);
            }
        }
    }
}

/** Certificates with something in every part. */
final class Full {
    private static final int EVERY_TARGET = 65534;
    private static final int EXCLUDED_NAME = 0xF;

    private Full() {
    }

    /** Writes every part that comes after issuer, subject and times; neither kind of subtree binds a path of Paths. */
    static void fill(CertPathCheck x, int cert) {
        x.setBasic(cert, 7, 15);
        x.setPolicyConstraints(cert, 15, 14, 13);
        for (int p = 0; p <= 15; p++) {
            x.addPolicy(cert, p);
            for (int t = 1; t <= 15; t++) {
                x.addMapping(cert, p, t);
            }
        }
        for (int k = 0; k < 4; k++) {
            x.addSubtree(cert, CertPathCheck.PERMITTED, 0);
            x.addSubtree(cert, CertPathCheck.EXCLUDED, EXCLUDED_NAME);
        }
    }

    /** A path of n, every certificate filled, and the settings too; what it holds has been looked at. */
    static CertPathCheck path(int n) {
        CertPathCheck x = Paths.chain(n);
        x.setInitial(0x8421, 5);
        for (int cert = 0; cert < n; cert++) {
            fill(x, cert);
        }
        Due.same("anchor", x.getField(-1, CertPathCheck.G_ANCHOR), Paths.ANCHOR);
        Due.same("U", x.getField(-1, CertPathCheck.G_USER_POLICIES), 0x8421);
        Due.same("flags", x.getField(-1, CertPathCheck.G_INIT_FLAGS), 5);
        Due.same("count", x.getField(-1, CertPathCheck.G_COUNT), n);
        for (int cert = 0; cert < n; cert++) {
            isFull(x, cert);
        }
        return x;
    }

    private static void isFull(CertPathCheck x, int cert) {
        int[] due = {cert + 1, cert + 2, 0, 100, 7, 15, 65535, 15, 14, 13, 4, 4};
        for (int field = 0; field <= 11; field++) {
            Due.same("full, " + Reading.field(cert, field), x.getField(cert, field), due[field]);
        }
        for (int s = 1; s <= 15; s++) {
            Due.same("full, " + Reading.targets(cert, s), x.getMappingTargets(cert, s), EVERY_TARGET);
        }
        for (int k = 0; k < 4; k++) {
            Due.same("full, permitted", x.getSubtree(cert, CertPathCheck.PERMITTED, k), 0);
            Due.same("full, excluded", x.getSubtree(cert, CertPathCheck.EXCLUDED, k), EXCLUDED_NAME);
        }
    }
}

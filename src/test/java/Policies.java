import java.util.Arrays;

/** Paths of Paths with policies, given as masks. */
final class Policies {
    private Policies() {
    }

    /** A chain whose certificate at i has the policies of the mask masks[i]. */
    static CertPathCheck chain(int... masks) {
        CertPathCheck x = Paths.chain(masks.length);
        for (int cert = 0; cert < masks.length; cert++) {
            add(x, cert, masks[cert]);
        }
        return x;
    }

    static void add(CertPathCheck x, int cert, int mask) {
        for (int policy = 0; policy <= 15; policy++) {
            if ((mask >> policy & 1) != 0) {
                x.addPolicy(cert, policy);
            }
        }
    }

    static int[] repeated(int mask, int n) {
        int[] masks = new int[n];
        Arrays.fill(masks, mask);
        return masks;
    }

    /** The path passes, and R, with a U that takes any-policy F too, is the mask. */
    static void passes(String what, CertPathCheck x, int mask) {
        Paths.passes(what, x, mask, mask);
    }
}

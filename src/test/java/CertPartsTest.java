import java.util.Map;
import java.util.function.BooleanSupplier;

/** Promises 6 to 10: the calls that write one part of a certificate. */
public final class CertPartsTest {
    private static final int CERTS = 3;
    private static final int[] NOT_CERTS = {Integer.MIN_VALUE, -2, -1, CERTS, CERTS + 1, 8, Integer.MAX_VALUE};
    private static final int[] NOT_NUMBERS = {Integer.MIN_VALUE, -2, 16, 17, Integer.MAX_VALUE};
    private static final int[] NOT_SPECIFIC = {Integer.MIN_VALUE, -1, 0, 16, 17, 33, Integer.MAX_VALUE};

    public static void main(String[] args) {
        basicIsReplaced();
        basicRefuses();
        policiesAreAdded();
        policyRefuses();
        mappingsAreAdded();
        mappingRefuses();
        constraintsAreReplaced();
        constraintsRefuse();
        subtreesAreAppended();
        subtreeRefuses();
        subtreesOfEveryCertAreApart();
        Due.end();
    }

    private static CertPathCheck validated() {
        CertPathCheck x = Paths.chain(CERTS);
        x.validate(Paths.TIME);
        return x;
    }

    /** The call is accepted and changes the status back and the named readings, no others. */
    private static void accepts(String what, CertPathCheck x, BooleanSupplier call, String... keys) {
        x.validate(Paths.TIME);
        Map<String, Integer> before = Reading.of(x);
        Due.yes(what, call.getAsBoolean());
        Map<String, Integer> after = Reading.of(x);
        Due.same(what + ", status", after.get("status"), CertPathCheck.NOT_VALIDATED);
        Due.same(what + ", fail index", after.get("fail"), -1);
        Due.same(what + ", F", after.get("F"), 0);
        Due.same(what + ", R", after.get("R"), 0);
        for (String key : new String[] {"status", "fail", "F", "R"}) {
            before.remove(key);
            after.remove(key);
        }
        Due.changed(what, before, after, keys);
    }

    private static void refuses(String what, CertPathCheck x, BooleanSupplier call) {
        x.validate(Paths.TIME);
        Map<String, Integer> before = Reading.of(x);
        Due.no(what, call.getAsBoolean());
        Due.changed(what, before, Reading.of(x));
    }

    private static void basicIsReplaced() {
        CertPathCheck x = validated();
        for (int cert = 0; cert < CERTS; cert++) {
            for (int flags = 0; flags <= 7; flags++) {
                for (int pathLen = -1; pathLen <= 15; pathLen++) {
                    Due.yes("setBasic", x.setBasic(cert, flags, pathLen));
                    Due.same("basic", x.getField(cert, CertPathCheck.F_BASIC), flags);
                    Due.same("pathLen", x.getField(cert, CertPathCheck.F_PATH_LEN), pathLen);
                }
            }
        }
        accepts("setBasic(1, 4, -1)", x, () -> x.setBasic(1, 4, -1), Reading.field(1, 4), Reading.field(1, 5));
        accepts("setBasic again", x, () -> x.setBasic(1, 4, -1));
    }

    private static void basicRefuses() {
        CertPathCheck x = validated();
        for (int cert : NOT_CERTS) {
            refuses("setBasic(" + cert + ", ..)", x, () -> x.setBasic(cert, 1, 0));
        }
        for (int flags : new int[] {Integer.MIN_VALUE, -1, 8, 9, Integer.MAX_VALUE}) {
            refuses("flags " + flags, x, () -> x.setBasic(0, flags, 0));
        }
        for (int pathLen : NOT_NUMBERS) {
            refuses("pathLen " + pathLen, x, () -> x.setBasic(0, 0, pathLen));
        }
    }

    private static void policiesAreAdded() {
        CertPathCheck x = validated();
        for (int policy = 15, mask = 0; policy >= 0; policy--) {
            int added = policy;
            mask |= 1 << policy;
            accepts("addPolicy " + policy, x, () -> x.addPolicy(1, added), Reading.field(1, 6));
            accepts("addPolicy again " + policy, x, () -> x.addPolicy(1, added));
            Due.same("policies", x.getField(1, CertPathCheck.F_POLICIES), mask);
        }
        accepts("addPolicy of the leaf", x, () -> x.addPolicy(2, 0), Reading.field(2, 6));
        Due.same("any-policy bit", x.getField(2, CertPathCheck.F_POLICIES), 1);
        Due.same("cert 0", x.getField(0, CertPathCheck.F_POLICIES), 0);
    }

    private static void policyRefuses() {
        CertPathCheck x = validated();
        for (int cert : NOT_CERTS) {
            refuses("addPolicy(" + cert + ", ..)", x, () -> x.addPolicy(cert, 1));
        }
        for (int policy : new int[] {Integer.MIN_VALUE, -32, -1, 16, 17, 32, Integer.MAX_VALUE}) {
            refuses("policy " + policy, x, () -> x.addPolicy(0, policy));
        }
    }

    private static void mappingsAreAdded() {
        for (int cert = 0; cert < CERTS; cert++) {
            CertPathCheck x = validated();
            int at = cert;
            for (int s = 1; s <= 15; s++) {
                int from = s;
                int other = s % 15 + 1;
                accepts("addMapping", x, () -> x.addMapping(at, from, from), Reading.targets(cert, s));
                accepts("addMapping", x, () -> x.addMapping(at, from, other), Reading.targets(cert, s));
                accepts("addMapping again", x, () -> x.addMapping(at, from, other));
                Due.same("T(" + s + ")", x.getMappingTargets(cert, s), (1 << s) | (1 << other));
            }
        }
    }

    private static void mappingRefuses() {
        CertPathCheck x = validated();
        for (int cert : NOT_CERTS) {
            refuses("addMapping(" + cert + ", ..)", x, () -> x.addMapping(cert, 1, 1));
        }
        for (int policy : NOT_SPECIFIC) {
            refuses("s " + policy, x, () -> x.addMapping(1, policy, 1));
            refuses("t " + policy, x, () -> x.addMapping(1, 1, policy));
        }
    }

    private static void constraintsAreReplaced() {
        CertPathCheck x = validated();
        for (int cert = 0; cert < CERTS; cert++) {
            for (int value = -1; value <= 15; value++) {
                int second = (value + 6) % 16;
                int third = (value + 11) % 16;
                Due.yes("setPolicyConstraints", x.setPolicyConstraints(cert, value, second, third));
                Due.same("requireExplicit", x.getField(cert, CertPathCheck.F_REQUIRE_EXPLICIT), value);
                Due.same("inhibitMapping", x.getField(cert, CertPathCheck.F_INHIBIT_MAPPING), second);
                Due.same("inhibitAny", x.getField(cert, CertPathCheck.F_INHIBIT_ANY), third);
            }
        }
        accepts("back to none", x, () -> x.setPolicyConstraints(1, -1, -1, -1),
                Reading.field(1, 7), Reading.field(1, 8), Reading.field(1, 9));
        accepts("none again", x, () -> x.setPolicyConstraints(1, -1, -1, -1));
    }

    private static void constraintsRefuse() {
        CertPathCheck x = validated();
        for (int cert : NOT_CERTS) {
            refuses("setPolicyConstraints(" + cert + ", ..)", x, () -> x.setPolicyConstraints(cert, 1, 1, 1));
        }
        for (int value : NOT_NUMBERS) {
            refuses("requireExplicit " + value, x, () -> x.setPolicyConstraints(0, value, 1, 1));
            refuses("inhibitMapping " + value, x, () -> x.setPolicyConstraints(0, 1, value, 1));
            refuses("inhibitAny " + value, x, () -> x.setPolicyConstraints(0, 1, 1, value));
        }
    }

    private static void subtreesAreAppended() {
        int[] names = {0x4321, 0, 0x15, 0x15};
        CertPathCheck x = validated();
        for (int kind = 0; kind <= 1; kind++) {
            int given = kind;
            for (int k = 0; k < CertPathCheck.MAX_SUBTREES; k++) {
                int name = names[k];
                accepts("addSubtree", x, () -> x.addSubtree(1, given, name),
                        Reading.field(1, 10 + kind), Reading.subtree(1, kind, k));
                Due.same("subtree " + k, x.getSubtree(1, kind, k), name);
                Due.same("subtree count", x.getField(1, CertPathCheck.F_PERMITTED_COUNT + kind), k + 1);
            }
            refuses("a fifth subtree", x, () -> x.addSubtree(1, given, 1));
        }
    }

    private static void subtreeRefuses() {
        CertPathCheck x = validated();
        for (int cert : NOT_CERTS) {
            refuses("addSubtree(" + cert + ", ..)", x, () -> x.addSubtree(cert, 0, 1));
        }
        for (int kind : new int[] {Integer.MIN_VALUE, -1, 2, 3, Integer.MAX_VALUE}) {
            refuses("kind " + kind, x, () -> x.addSubtree(0, kind, 1));
        }
        for (int name : new int[] {-1, 65536, 0x0010, 0x1011, Integer.MIN_VALUE, Integer.MAX_VALUE}) {
            refuses("name " + name, x, () -> x.addSubtree(0, 0, name));
        }
    }

    private static void subtreesOfEveryCertAreApart() {
        CertPathCheck x = Paths.chain(8);
        for (int k = 0; k < 4; k++) {
            for (int cert = 0; cert < 8; cert++) {
                x.addSubtree(cert, CertPathCheck.PERMITTED, 0x1 + 0x10 * (cert + 1) + 0x100 * (k + 1));
                x.addSubtree(cert, CertPathCheck.EXCLUDED, 0x2 + 0x10 * (cert + 1) + 0x100 * (k + 1));
            }
        }
        for (int k = 0; k < 4; k++) {
            for (int cert = 0; cert < 8; cert++) {
                int tail = 0x10 * (cert + 1) + 0x100 * (k + 1);
                Due.same("permitted", x.getSubtree(cert, CertPathCheck.PERMITTED, k), 0x1 + tail);
                Due.same("excluded", x.getSubtree(cert, CertPathCheck.EXCLUDED, k), 0x2 + tail);
            }
        }
    }
}

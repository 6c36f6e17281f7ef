import java.util.Random;

/** Promises 1 to 15: long runs of calls, the same for every run of the test, compared with PathModel. */
public final class ModelTest {
    private static final int RUNS = 20000;
    private static final int[] EDGES = {Integer.MIN_VALUE, -2, -1, 0, 1, 7, 8, 15, 16, 17, 65535, 65536, 0x10, 0x1011,
        Integer.MAX_VALUE};

    private final Random random;
    private final CertPathCheck real;
    private final PathModel model;

    private ModelTest(long seed) {
        random = new Random(seed);
        int capacity = below(4) == 0 ? EDGES[below(EDGES.length)] : 2 + below(7);
        real = new CertPathCheck(capacity);
        model = new PathModel(capacity);
    }

    public static void main(String[] args) {
        int[] seen = new int[9];
        for (int seed = 0; seed < RUNS; seed++) {
            new ModelTest(seed).run("run " + seed, seen);
        }
        for (int status = 0; status <= 8; status++) {
            Due.yes("status " + status + " came " + seen[status] + " times, enough", seen[status] >= 300);
        }
        Due.end();
    }

    private int below(int bound) {
        return random.nextInt(bound);
    }

    /** Mostly a number of the range, now and then an edge or what lies beyond it. */
    private int about(int least, int greatest) {
        return below(40) == 0 ? EDGES[below(EDGES.length)] : least + below(greatest - least + 1);
    }

    private int cert() {
        return about(0, Math.max(0, model.certs.size() - 1));
    }

    /** Few labels, so that names meet and lie in each other's subtrees. */
    private int name() {
        if (below(40) == 0) {
            return EDGES[below(EDGES.length)];
        }
        int name = 0;
        for (int k = 0, len = below(4); k < len; k++) {
            name += (1 + below(2)) << (4 * k);
        }
        return name;
    }

    /** A policy among few, so that they meet. */
    private int policy(int least) {
        return below(20) == 0 ? about(least, 15) : least + below(4 - least);
    }

    /** Mostly none, else mostly small. */
    private int constraint() {
        return below(3) != 0 ? -1 : below(3) == 0 ? about(-1, 15) : below(4);
    }

    private void run(String run, int[] seen) {
        int start = below(6) == 0 ? 0 : 1 + below(8);
        int anchor = name();
        Due.yes(run + ": setAnchor", real.setAnchor(anchor) == model.setAnchor(anchor));
        for (int k = 0; k < start; k++) {
            addToChain(run);
            for (int more = below(5); more > 0; more--) {
                call(run, 5 + below(6));
            }
        }
        for (int k = 0; k < 12; k++) {
            validate(run, seen);
            call(run, below(4) == 0 ? below(11) : 5 + below(6));
            sameResult(run);
        }
        sameReadings(run);
    }

    private void addToChain(String run) {
        int at = model.certs.size();
        int issuer = at == 0 ? model.anchor : model.certs.get(at - 1).subject;
        int subject = below(4) == 0 ? issuer : name();
        int to = below(60) == 0 ? 10 : 100;
        Due.same(run + ": addCert", real.addCert(issuer, subject, 0, to), model.addCert(issuer, subject, 0, to));
        int basic = below(20) == 0 ? below(8) : new int[] {1, 5, 7}[below(3)];
        int pathLen = below(4) == 0 ? below(5) : -1;
        Due.yes(run + ": setBasic", real.setBasic(at, basic, pathLen) == model.setBasic(at, basic, pathLen));
        for (int k = below(3); k >= 0; k--) {
            int policy = policy(0);
            Due.yes(run + ": addPolicy", real.addPolicy(at, policy) == model.addPolicy(at, policy));
        }
    }

    private void validate(String run, int[] seen) {
        int time = below(12) == 0 ? EDGES[below(EDGES.length)] : 10;
        int due = model.validate(time);
        Due.same(run + ": validate(" + time + ")", real.validate(time), due);
        boolean otherFault = due != CertPathCheck.OK && due != CertPathCheck.ERR_POLICY;
        Due.yes(run + ": the summary", otherFault ? !model.holdsButForPolicies(time)
                : due == CertPathCheck.ERR_POLICY || model.holdsButForPolicies(time));
        seen[due]++;
        sameResult(run);
    }

    private void call(String run, int which) {
        int cert = cert();
        int a = name();
        int b = name();
        int s = policy(1);
        int t = policy(1);
        int p = policy(0);
        int kind = about(0, 1);
        String what = run + ": call " + which;
        switch (which) {
            case 0 -> Due.yes(what, real.setAnchor(a) == model.setAnchor(a));
            case 1 -> Due.same(what, real.addCert(a, b, kind, p), model.addCert(a, b, kind, p));
            case 2 -> Due.yes(what, real.removeLast() == model.removeLast());
            case 3 -> addToChain(what);
            case 4, 5 -> {
                int user = below(3) == 0 ? about(0, 65535) : below(16);
                int flags = about(0, 7);
                Due.yes(what, real.setInitial(user, flags) == model.setInitial(user, flags));
            }
            case 6 -> {
                int basic = below(8) == 0 ? about(0, 7) : 7;
                int pathLen = constraint();
                Due.yes(what, real.setBasic(cert, basic, pathLen) == model.setBasic(cert, basic, pathLen));
            }
            case 7 -> Due.yes(what, real.addPolicy(cert, p) == model.addPolicy(cert, p));
            case 8 -> Due.yes(what, real.addMapping(cert, s, t) == model.addMapping(cert, s, t));
            case 9 -> {
                int e = constraint();
                int m = constraint();
                int any = constraint();
                Due.yes(what, real.setPolicyConstraints(cert, e, m, any)
                        == model.setPolicyConstraints(cert, e, m, any));
            }
            default -> {
                int name = kind == CertPathCheck.PERMITTED && below(3) != 0 ? 0 : a;
                name = kind == CertPathCheck.EXCLUDED && below(3) != 0 ? 0x9 : name;
                Due.yes(what, real.addSubtree(cert, kind, name) == model.addSubtree(cert, kind, name));
            }
        }
    }

    private void sameResult(String run) {
        Due.same(run + ": status", real.getField(-1, CertPathCheck.G_STATUS), model.status);
        Due.same(run + ": fail index", real.getFailIndex(), model.fail);
        Due.same(run + ": F", real.getPolicies(), model.accepted);
        Due.same(run + ": R", real.getAuthorityPolicies(), model.authority);
    }

    private void sameReadings(String run) {
        for (int cert = -2; cert <= 9; cert++) {
            for (int field = -1; field <= 12; field++) {
                Due.same(run + ": getField", real.getField(cert, field), model.getField(cert, field));
            }
            for (int s = -1; s <= 16; s++) {
                int due = model.getMappingTargets(cert, s);
                Due.same(run + ": getMappingTargets", real.getMappingTargets(cert, s), due);
            }
            for (int kind = -1; kind <= 2; kind++) {
                for (int k = -1; k <= 4; k++) {
                    Due.same(run + ": getSubtree", real.getSubtree(cert, kind, k), model.getSubtree(cert, kind, k));
                }
            }
        }
    }
}

import java.util.ArrayList;
import java.util.List;
import java.util.Set;
import java.util.TreeSet;

/**
 * The document's promises 1 to 15 written a second time, as close to its words as Java's collections allow,
 * for ModelTest to compare the class with. A pair (d, v) is kept as the number 16 * d + v.
 */
final class PathModel {
    static final class Cert {
        int issuer;
        int subject;
        int notBefore;
        int notAfter;
        int basic = 0;
        int pathLen = -1;
        Set<Integer> policies = new TreeSet<>();
        List<Set<Integer>> targets = new ArrayList<>();
        int[] constraints = {-1, -1, -1};
        List<List<Integer>> subtrees = List.of(new ArrayList<>(), new ArrayList<>());

        boolean selfIssued() {
            return issuer == subject;
        }
    }

    final int capacity;
    final List<Cert> certs = new ArrayList<>();
    int anchor = 0;
    int user = 1;
    int flags = 0;
    int status;
    int fail;
    int accepted;
    int authority;

    PathModel(int capacity) {
        this.capacity = Math.max(1, Math.min(8, capacity));
        result(-1, -1, 0, 0);
    }

    private int result(int newStatus, int newFail, int newAccepted, int newAuthority) {
        status = newStatus;
        fail = newFail;
        accepted = newAccepted;
        authority = newAuthority;
        return newStatus;
    }

    private boolean done() {
        result(-1, -1, 0, 0);
        return true;
    }

    static List<Integer> labels(int name) {
        List<Integer> labels = new ArrayList<>();
        for (int k = 0; k < 4 && (name >> 4 * k & 15) != 0; k++) {
            labels.add(name >> 4 * k & 15);
        }
        return labels;
    }

    static boolean isName(int value) {
        int again = 0;
        List<Integer> labels = labels(value);
        for (int k = 0; k < labels.size(); k++) {
            again += labels.get(k) << 4 * k;
        }
        return again == value;
    }

    static boolean liesIn(int name, int subtree) {
        List<Integer> whole = labels(name);
        List<Integer> head = labels(subtree);
        return head.size() <= whole.size() && whole.subList(0, head.size()).equals(head);
    }

    static int mask(Set<Integer> set) {
        return set.stream().mapToInt(p -> 1 << p).sum();
    }

    private boolean has(int cert) {
        return cert >= 0 && cert < certs.size();
    }

    private static boolean within(int value, int least, int greatest) {
        return value >= least && value <= greatest;
    }

    boolean setAnchor(int name) {
        if (!isName(name)) {
            return false;
        }
        anchor = name;
        return done();
    }

    boolean setInitial(int newUser, int newFlags) {
        if (!within(newUser, 0, 65535) || !within(newFlags, 0, 7)) {
            return false;
        }
        user = newUser;
        flags = newFlags;
        return done();
    }

    int addCert(int issuer, int subject, int notBefore, int notAfter) {
        if (certs.size() == capacity || !isName(issuer) || !isName(subject)) {
            return -1;
        }
        Cert cert = new Cert();
        cert.issuer = issuer;
        cert.subject = subject;
        cert.notBefore = notBefore;
        cert.notAfter = notAfter;
        for (int s = 0; s < 16; s++) {
            cert.targets.add(new TreeSet<>());
        }
        certs.add(cert);
        done();
        return certs.size() - 1;
    }

    boolean removeLast() {
        if (certs.isEmpty()) {
            return false;
        }
        certs.remove(certs.size() - 1);
        return done();
    }

    boolean setBasic(int cert, int newBasic, int pathLen) {
        if (!has(cert) || !within(newBasic, 0, 7) || !within(pathLen, -1, 15)) {
            return false;
        }
        certs.get(cert).basic = newBasic;
        certs.get(cert).pathLen = pathLen;
        return done();
    }

    boolean addPolicy(int cert, int policy) {
        if (!has(cert) || !within(policy, 0, 15)) {
            return false;
        }
        certs.get(cert).policies.add(policy);
        return done();
    }

    boolean addMapping(int cert, int s, int t) {
        if (!has(cert) || !within(s, 1, 15) || !within(t, 1, 15)) {
            return false;
        }
        certs.get(cert).targets.get(s).add(t);
        return done();
    }

    boolean setPolicyConstraints(int cert, int... values) {
        if (!has(cert)) {
            return false;
        }
        for (int value : values) {
            if (!within(value, -1, 15)) {
                return false;
            }
        }
        certs.get(cert).constraints = values;
        return done();
    }

    boolean addSubtree(int cert, int kind, int name) {
        if (!has(cert) || !within(kind, 0, 1) || !isName(name) || certs.get(cert).subtrees.get(kind).size() == 4) {
            return false;
        }
        certs.get(cert).subtrees.get(kind).add(name);
        return done();
    }

    int getField(int cert, int field) {
        if (cert == -1 && within(field, 0, 5)) {
            return new int[] {certs.size(), capacity, anchor, user, flags, status}[field];
        }
        if (!has(cert) || !within(field, 0, 11)) {
            return Integer.MIN_VALUE;
        }
        Cert c = certs.get(cert);
        return new int[] {c.issuer, c.subject, c.notBefore, c.notAfter, c.basic, c.pathLen, mask(c.policies),
            c.constraints[0], c.constraints[1], c.constraints[2],
            c.subtrees.get(0).size(), c.subtrees.get(1).size()}[field];
    }

    int getMappingTargets(int cert, int s) {
        return has(cert) && within(s, 1, 15) ? mask(certs.get(cert).targets.get(s)) : 0;
    }

    int getSubtree(int cert, int kind, int k) {
        if (!has(cert) || !within(kind, 0, 1) || k < 0 || k >= certs.get(cert).subtrees.get(kind).size()) {
            return -1;
        }
        return certs.get(cert).subtrees.get(kind).get(k);
    }

    private boolean namesHold(int i) {
        for (Cert before : certs.subList(0, i)) {
            int subject = certs.get(i).subject;
            List<Integer> permitted = before.subtrees.get(0);
            if (!permitted.isEmpty() && permitted.stream().noneMatch(s -> liesIn(subject, s))) {
                return false;
            }
            if (before.subtrees.get(1).stream().anyMatch(s -> liesIn(subject, s))) {
                return false;
            }
        }
        return true;
    }

    private static Set<Integer> nodes(Set<Integer> states, Cert cert, boolean anyOk, boolean opens) {
        Set<Integer> joined = new TreeSet<>();
        for (int pair : states) {
            if (pair % 16 != 0) {
                if (cert.policies.contains(pair % 16) || anyOk) {
                    joined.add(pair);
                }
                continue;
            }
            for (int p = 1; p <= 15; p++) {
                if (cert.policies.contains(p) || anyOk && opens && !cert.targets.get(p).isEmpty()) {
                    joined.add(17 * p);
                }
            }
            if (anyOk) {
                joined.add(0);
            }
        }
        return joined;
    }

    private static Set<Integer> mapped(Set<Integer> nodes, Cert cert, boolean mapping) {
        Set<Integer> states = new TreeSet<>();
        for (int pair : nodes) {
            int v = pair % 16;
            if (v == 0 || cert.targets.get(v).isEmpty()) {
                states.add(pair);
            } else if (mapping) {
                cert.targets.get(v).forEach(t -> states.add(pair - v + t));
            }
        }
        return states;
    }

    int validate(int time) {
        int n = certs.size();
        if (n == 0) {
            return result(1, -1, 0, 0);
        }
        // E, P and A in this order, as the constraints of a certificate.
        int[] left = {(flags & 1) != 0 ? 0 : n + 1, (flags & 2) != 0 ? 0 : n + 1, (flags & 4) != 0 ? 0 : n + 1};
        int length = n;
        Set<Integer> states = new TreeSet<>(Set.of(0));
        for (int i = 0; ; i++) {
            Cert cert = certs.get(i);
            boolean last = i == n - 1;
            if (!within(time, cert.notBefore, cert.notAfter)) {
                return result(2, i, 0, 0);
            }
            if (cert.issuer != (i == 0 ? anchor : certs.get(i - 1).subject)) {
                return result(3, i, 0, 0);
            }
            if (!(cert.selfIssued() && !last) && !namesHold(i)) {
                return result(4, i, 0, 0);
            }
            boolean anyOk = cert.policies.contains(0) && (left[2] > 0 || cert.selfIssued() && !last);
            Set<Integer> nodes = nodes(states, cert, anyOk, !last && left[1] > 0);
            if (left[0] == 0 && nodes.isEmpty()) {
                return result(5, i, 0, 0);
            }
            if (last) {
                return wrapUp(cert, left[0], nodes);
            }
            if ((cert.basic & 1) == 0) {
                return result(6, i, 0, 0);
            }
            if (!cert.selfIssued() && length == 0) {
                return result(7, i, 0, 0);
            }
            length -= cert.selfIssued() ? 0 : 1;
            length = cert.pathLen >= 0 ? Math.min(length, cert.pathLen) : length;
            if ((cert.basic & 2) != 0 && (cert.basic & 4) == 0) {
                return result(8, i, 0, 0);
            }
            states = mapped(nodes, cert, left[1] > 0);
            for (int k = 0; k < 3; k++) {
                left[k] = cert.selfIssued() ? left[k] : Math.max(0, left[k] - 1);
                left[k] = cert.constraints[k] >= 0 ? Math.min(left[k], cert.constraints[k]) : left[k];
            }
        }
    }

    private int wrapUp(Cert leaf, int explicit, Set<Integer> nodes) {
        int left = leaf.constraints[0] == 0 ? 0 : Math.max(0, explicit - 1);
        Set<Integer> found = new TreeSet<>();
        nodes.forEach(pair -> found.add(pair / 16));
        int r = mask(found);
        int f = r;
        if ((user & 1) == 0) {
            f = found.contains(0) ? user : r & user;
        }
        return left == 0 && f == 0 ? result(5, certs.size() - 1, 0, 0) : result(0, -1, f, r);
    }

    /** The document's summary of OK, less the policies. */
    boolean holdsButForPolicies(int time) {
        int n = certs.size();
        boolean holds = n > 0;
        for (int i = 0; i < n; i++) {
            Cert cert = certs.get(i);
            boolean leaf = i == n - 1;
            holds &= cert.notBefore <= time && time <= cert.notAfter;
            holds &= cert.issuer == (i == 0 ? anchor : certs.get(i - 1).subject);
            holds &= !leaf && cert.selfIssued() || namesHold(i);
            holds &= leaf || List.of(1, 5, 7).contains(cert.basic);
            long between = leaf ? 0 : certs.subList(i + 1, n - 1).stream().filter(c -> !c.selfIssued()).count();
            holds &= leaf || cert.pathLen < 0 || between <= cert.pathLen;
        }
        return holds;
    }
}

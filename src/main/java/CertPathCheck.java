/**
 * Validates one certification path, from a trust anchor to a leaf certificate.
 * The path is entered piece by piece; validate walks it and keeps the last result.
 */
public final class CertPathCheck {
    public static final int ANY_POLICY = 0;
    public static final int MAX_SUBTREES = 4;
    public static final int NO_VALUE = -2147483648;
    public static final int NOT_VALIDATED = -1;
    public static final int OK = 0;
    public static final int ERR_EMPTY = 1;
    public static final int ERR_VALIDITY = 2;
    public static final int ERR_ISSUER = 3;
    public static final int ERR_NAME = 4;
    public static final int ERR_POLICY = 5;
    public static final int ERR_CA = 6;
    public static final int ERR_PATH_LENGTH = 7;
    public static final int ERR_KEY_USAGE = 8;
    public static final int BASIC_CA = 1;
    public static final int BASIC_KEY_USAGE = 2;
    public static final int BASIC_KEY_CERT_SIGN = 4;
    public static final int INIT_EXPLICIT = 1;
    public static final int INIT_INHIBIT_MAPPING = 2;
    public static final int INIT_INHIBIT_ANY = 4;
    public static final int PERMITTED = 0;
    public static final int EXCLUDED = 1;
    public static final int F_ISSUER = 0;
    public static final int F_SUBJECT = 1;
    public static final int F_NOT_BEFORE = 2;
    public static final int F_NOT_AFTER = 3;
    public static final int F_BASIC = 4;
    public static final int F_PATH_LEN = 5;
    public static final int F_POLICIES = 6;
    public static final int F_REQUIRE_EXPLICIT = 7;
    public static final int F_INHIBIT_MAPPING = 8;
    public static final int F_INHIBIT_ANY = 9;
    public static final int F_PERMITTED_COUNT = 10;
    public static final int F_EXCLUDED_COUNT = 11;
    public static final int G_COUNT = 0;
    public static final int G_CAPACITY = 1;
    public static final int G_ANCHOR = 2;
    public static final int G_USER_POLICIES = 3;
    public static final int G_INIT_FLAGS = 4;
    public static final int G_STATUS = 5;

    private static final int MAX_CERTS = 8;
    private static final int FIELDS = 12;
    private static final int POLICIES = 16;
    private static final int KINDS = 2;
    private static final int NAME_GROUPS = 4;
    private static final int NONE = -1;
    private static final int GREATEST_NAME = 65535;
    private static final int GREATEST_MASK = 65535;
    private static final int GREATEST_FLAGS = 7;
    private static final int GREATEST_NUMBER = 15;
    private static final int ANY_BIT = 1;
    // MAX_CERTS * FIELDS, MAX_CERTS * POLICIES and MAX_CERTS * KINDS * MAX_SUBTREES
    private static final int PART_CELLS = 96;
    private static final int MAPPING_CELLS = 128;
    private static final int SUBTREE_CELLS = 64;

    private final int[] parts = new int[PART_CELLS];
    private final int[] mappings = new int[MAPPING_CELLS];
    private final int[] subtrees = new int[SUBTREE_CELLS];

    private final int capacity;
    private int count;
    private int anchor;
    private int userPolicies;
    private int initFlags;

    private int lastStatus;
    private int lastFailIndex;
    private int lastAccepted;
    private int lastAuthority;

    // What follows holds meaning only while validate runs. The document's S and N are
    // kept as one mask per policy d: bit v of the mask at d stands for the pair (d, v).
    private final int[] expected = new int[POLICIES];
    private final int[] nodes = new int[POLICIES];
    private int explicitLeft;
    private int mappingLeft;
    private int anyLeft;
    private int lengthLeft;

    public CertPathCheck(int capacity) {
        this.capacity = clampCapacity(capacity);
        count = 0;
        anchor = 0;
        userPolicies = ANY_BIT;
        initFlags = 0;
        resetResult();
    }

    public boolean setAnchor(int name) {
        if (!isName(name)) {
            return false;
        }
        anchor = name;
        resetResult();
        return true;
    }

    public boolean setInitial(int userPolicies, int flags) {
        if (!inRange(userPolicies, 0, GREATEST_MASK) || !inRange(flags, 0, GREATEST_FLAGS)) {
            return false;
        }
        this.userPolicies = userPolicies;
        initFlags = flags;
        resetResult();
        return true;
    }

    public int addCert(int issuer, int subject, int notBefore, int notAfter) {
        if (count >= capacity || !isName(issuer) || !isName(subject)) {
            return -1;
        }
        int cert = count;
        clearCert(cert);
        setPart(cert, F_ISSUER, issuer);
        setPart(cert, F_SUBJECT, subject);
        setPart(cert, F_NOT_BEFORE, notBefore);
        setPart(cert, F_NOT_AFTER, notAfter);
        count = cert + 1;
        resetResult();
        return cert;
    }

    public boolean removeLast() {
        if (count == 0) {
            return false;
        }
        // The parts stay in the arrays unread: addCert clears a position before it uses it again.
        count = count - 1;
        resetResult();
        return true;
    }

    public boolean setBasic(int cert, int flags, int pathLen) {
        if (!isCert(cert) || !inRange(flags, 0, GREATEST_FLAGS) || !isNumberOrNone(pathLen)) {
            return false;
        }
        setPart(cert, F_BASIC, flags);
        setPart(cert, F_PATH_LEN, pathLen);
        resetResult();
        return true;
    }

    public boolean addPolicy(int cert, int policy) {
        if (!isCert(cert) || !inRange(policy, 0, POLICIES - 1)) {
            return false;
        }
        int policies = part(cert, F_POLICIES);
        setPart(cert, F_POLICIES, policies | (1 << policy));
        resetResult();
        return true;
    }

    public boolean addMapping(int cert, int s, int t) {
        if (!isCert(cert) || !isSpecificPolicy(s) || !isSpecificPolicy(t)) {
            return false;
        }
        mappings[cert * POLICIES + s] |= 1 << t;
        resetResult();
        return true;
    }

    public boolean setPolicyConstraints(int cert, int requireExplicit, int inhibitMapping, int inhibitAny) {
        if (!isCert(cert) || !isNumberOrNone(requireExplicit)
                || !isNumberOrNone(inhibitMapping) || !isNumberOrNone(inhibitAny)) {
            return false;
        }
        setPart(cert, F_REQUIRE_EXPLICIT, requireExplicit);
        setPart(cert, F_INHIBIT_MAPPING, inhibitMapping);
        setPart(cert, F_INHIBIT_ANY, inhibitAny);
        resetResult();
        return true;
    }

    public boolean addSubtree(int cert, int kind, int name) {
        if (!isCert(cert) || !isKind(kind) || !isName(name)) {
            return false;
        }
        int held = subtreeCount(cert, kind);
        if (held >= MAX_SUBTREES) {
            return false;
        }
        subtrees[firstSubtree(cert, kind) + held] = name;
        setPart(cert, F_PERMITTED_COUNT + kind, held + 1);
        resetResult();
        return true;
    }

    public int validate(int time) {
        if (count == 0) {
            return keepFailure(ERR_EMPTY, -1);
        }
        startWalk();
        int n = count;
        for (int i = 0; i < n; i++) {
            int fault = checkCert(i, time);
            if (fault == OK && !isLeaf(i)) {
                fault = checkIssuing(i);
            }
            if (fault != OK) {
                return keepFailure(fault, i);
            }
            if (!isLeaf(i)) {
                prepareNext(i);
            }
        }
        return wrapUp();
    }

    public int getFailIndex() {
        return lastFailIndex;
    }

    public int getPolicies() {
        return lastAccepted;
    }

    public int getAuthorityPolicies() {
        return lastAuthority;
    }

    public int getField(int cert, int field) {
        if (cert == -1) {
            return globalField(field);
        }
        if (!isCert(cert) || !inRange(field, 0, FIELDS - 1)) {
            return NO_VALUE;
        }
        return part(cert, field);
    }

    public int getMappingTargets(int cert, int s) {
        if (!isCert(cert) || !isSpecificPolicy(s)) {
            return 0;
        }
        return targets(cert, s);
    }

    public int getSubtree(int cert, int kind, int k) {
        if (!isCert(cert) || !isKind(kind) || k < 0 || k >= subtreeCount(cert, kind)) {
            return -1;
        }
        return subtrees[firstSubtree(cert, kind) + k];
    }

    private static int clampCapacity(int wanted) {
        if (wanted < 1) {
            return 1;
        }
        return wanted > MAX_CERTS ? MAX_CERTS : wanted;
    }

    private static boolean inRange(int value, int least, int greatest) {
        return least <= value && value <= greatest;
    }

    private static boolean isNumberOrNone(int value) {
        return inRange(value, NONE, GREATEST_NUMBER);
    }

    private static boolean isSpecificPolicy(int policy) {
        return inRange(policy, 1, POLICIES - 1);
    }

    private static boolean isKind(int kind) {
        return kind == PERMITTED || kind == EXCLUDED;
    }

    private static int group(int name, int k) {
        return (name >> (4 * k)) & 15;
    }

    private static boolean isName(int value) {
        if (!inRange(value, 0, GREATEST_NAME)) {
            return false;
        }
        for (int k = 1; k < NAME_GROUPS; k++) {
            if (group(value, k) != 0 && group(value, k - 1) == 0) {
                return false;
            }
        }
        return true;
    }

    // A name shorter than the subtree has a 0 where the subtree has a label,
    // so the lengths need no compare of their own.
    private static boolean liesIn(int name, int subtree) {
        for (int k = 0; k < NAME_GROUPS; k++) {
            int label = group(subtree, k);
            if (label != 0 && label != group(name, k)) {
                return false;
            }
        }
        return true;
    }

    private boolean isCert(int cert) {
        return 0 <= cert && cert < count;
    }

    private boolean isLeaf(int cert) {
        return cert == count - 1;
    }

    private boolean isSelfIssued(int cert) {
        return part(cert, F_ISSUER) == part(cert, F_SUBJECT);
    }

    private int part(int cert, int field) {
        return parts[cert * FIELDS + field];
    }

    private void setPart(int cert, int field, int value) {
        parts[cert * FIELDS + field] = value;
    }

    private int targets(int cert, int policy) {
        return mappings[cert * POLICIES + policy];
    }

    private int subtreeCount(int cert, int kind) {
        return part(cert, F_PERMITTED_COUNT + kind);
    }

    private static int firstSubtree(int cert, int kind) {
        return (cert * KINDS + kind) * MAX_SUBTREES;
    }

    private void clearCert(int cert) {
        for (int field = 0; field < FIELDS; field++) {
            setPart(cert, field, 0);
        }
        setPart(cert, F_PATH_LEN, NONE);
        setPart(cert, F_REQUIRE_EXPLICIT, NONE);
        setPart(cert, F_INHIBIT_MAPPING, NONE);
        setPart(cert, F_INHIBIT_ANY, NONE);
        for (int s = 0; s < POLICIES; s++) {
            mappings[cert * POLICIES + s] = 0;
        }
    }

    private int globalField(int field) {
        switch (field) {
            case G_COUNT:
                return count;
            case G_CAPACITY:
                return capacity;
            case G_ANCHOR:
                return anchor;
            case G_USER_POLICIES:
                return userPolicies;
            case G_INIT_FLAGS:
                return initFlags;
            case G_STATUS:
                return lastStatus;
            default:
                return NO_VALUE;
        }
    }

    private void resetResult() {
        keepFailure(NOT_VALIDATED, -1);
    }

    // Every result but OK comes with empty policy sets.
    private int keepFailure(int status, int failIndex) {
        lastStatus = status;
        lastFailIndex = failIndex;
        lastAccepted = 0;
        lastAuthority = 0;
        return status;
    }

    private void startWalk() {
        explicitLeft = firstCounter(INIT_EXPLICIT);
        mappingLeft = firstCounter(INIT_INHIBIT_MAPPING);
        anyLeft = firstCounter(INIT_INHIBIT_ANY);
        lengthLeft = count;
        for (int d = 0; d < POLICIES; d++) {
            expected[d] = 0;
        }
        expected[ANY_POLICY] = ANY_BIT;
    }

    private int firstCounter(int flag) {
        return (initFlags & flag) != 0 ? 0 : count + 1;
    }

    // Checks 1 to 4 of promise 11, in the document's order: the first fault is the answer.
    private int checkCert(int i, int time) {
        if (time < part(i, F_NOT_BEFORE) || time > part(i, F_NOT_AFTER)) {
            return ERR_VALIDITY;
        }
        int issuing = i == 0 ? anchor : part(i - 1, F_SUBJECT);
        if (part(i, F_ISSUER) != issuing) {
            return ERR_ISSUER;
        }
        boolean exempt = isSelfIssued(i) && !isLeaf(i);
        if (!exempt && breaksNameConstraints(i)) {
            return ERR_NAME;
        }
        boolean anyOk = (part(i, F_POLICIES) & ANY_BIT) != 0 && (anyLeft > 0 || exempt);
        fillNodes(i, anyOk);
        if (explicitLeft == 0 && authorityMask() == 0) {
            return ERR_POLICY;
        }
        return OK;
    }

    private boolean breaksNameConstraints(int i) {
        int subject = part(i, F_SUBJECT);
        for (int j = 0; j < i; j++) {
            if (subtreeCount(j, PERMITTED) > 0 && !inSomeSubtree(subject, j, PERMITTED)) {
                return true;
            }
            if (inSomeSubtree(subject, j, EXCLUDED)) {
                return true;
            }
        }
        return false;
    }

    private boolean inSomeSubtree(int name, int cert, int kind) {
        int held = subtreeCount(cert, kind);
        int first = firstSubtree(cert, kind);
        for (int k = 0; k < held; k++) {
            if (liesIn(name, subtrees[first + k])) {
                return true;
            }
        }
        return false;
    }

    private void fillNodes(int i, boolean anyOk) {
        int policies = part(i, F_POLICIES);
        int kept = anyOk ? GREATEST_MASK : policies;
        for (int d = 0; d < POLICIES; d++) {
            nodes[d] = expected[d] & kept & ~ANY_BIT;
        }
        // A pair (d, 0) is only ever (0, 0): check 4 makes no other, and no mapping leads to 0.
        if ((expected[ANY_POLICY] & ANY_BIT) != 0) {
            openAnyPolicy(i, anyOk);
        }
    }

    private void openAnyPolicy(int i, boolean anyOk) {
        int policies = part(i, F_POLICIES);
        boolean opensMapped = anyOk && !isLeaf(i) && mappingLeft > 0;
        for (int p = 1; p < POLICIES; p++) {
            boolean named = (policies & (1 << p)) != 0;
            if (named || (opensMapped && targets(i, p) != 0)) {
                nodes[p] |= 1 << p;
            }
        }
        if (anyOk) {
            nodes[ANY_POLICY] |= ANY_BIT;
        }
    }

    private int authorityMask() {
        int mask = 0;
        for (int d = 0; d < POLICIES; d++) {
            if (nodes[d] != 0) {
                mask |= 1 << d;
            }
        }
        return mask;
    }

    // Checks 5 to 7. The path length is counted down in prepareNext, since check 7 doesn't ask for it.
    private int checkIssuing(int i) {
        int basic = part(i, F_BASIC);
        if ((basic & BASIC_CA) == 0) {
            return ERR_CA;
        }
        if (!isSelfIssued(i) && lengthLeft == 0) {
            return ERR_PATH_LENGTH;
        }
        if ((basic & BASIC_KEY_USAGE) != 0 && (basic & BASIC_KEY_CERT_SIGN) == 0) {
            return ERR_KEY_USAGE;
        }
        return OK;
    }

    // The mappings are applied before the counters move, as they go by the old mappingLeft.
    private void prepareNext(int i) {
        for (int d = 0; d < POLICIES; d++) {
            expected[d] = mapped(i, nodes[d]);
        }
        lengthLeft = nextCounter(lengthLeft, i, F_PATH_LEN);
        explicitLeft = nextCounter(explicitLeft, i, F_REQUIRE_EXPLICIT);
        mappingLeft = nextCounter(mappingLeft, i, F_INHIBIT_MAPPING);
        anyLeft = nextCounter(anyLeft, i, F_INHIBIT_ANY);
    }

    private int mapped(int i, int held) {
        int result = held & ANY_BIT;
        for (int v = 1; v < POLICIES; v++) {
            if ((held & (1 << v)) == 0) {
                continue;
            }
            int to = targets(i, v);
            if (to == 0) {
                result |= 1 << v;
            } else if (mappingLeft > 0) {
                result |= to;
            }
        }
        return result;
    }

    private int nextCounter(int counter, int i, int limitField) {
        int next = counter;
        if (next > 0 && !isSelfIssued(i)) {
            next = next - 1;
        }
        int limit = part(i, limitField);
        return limit >= 0 && limit < next ? limit : next;
    }

    // The document lowers the explicit counter once more here, so 1 left counts as none.
    private int wrapUp() {
        int leaf = count - 1;
        boolean explicit = explicitLeft <= 1 || part(leaf, F_REQUIRE_EXPLICIT) == 0;
        int authority = authorityMask();
        int accepted = acceptedOf(authority);
        if (explicit && accepted == 0) {
            return keepFailure(ERR_POLICY, leaf);
        }
        lastStatus = OK;
        lastFailIndex = -1;
        lastAccepted = accepted;
        lastAuthority = authority;
        return OK;
    }

    private int acceptedOf(int authority) {
        if ((userPolicies & ANY_BIT) != 0) {
            return authority;
        }
        int opened = (authority & ANY_BIT) != 0 ? userPolicies : 0;
        return (authority & userPolicies) | opened;
    }
}

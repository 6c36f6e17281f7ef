import java.util.LinkedHashMap;
import java.util.Map;
import java.util.function.Predicate;

/** What it is, the last result: who sets it, who resets it and who leaves it; and promise 12. */
public final class LastResultTest {
    private static final int N = 4;
    private static final int AT = 2;
    private static final int MOST = CertPathCheck.ERR_KEY_USAGE;

    public static void main(String[] args) {
        Due.sentence("reset to status NOT_VALIDATED, fail index -1, F = 0, R = 0 at construction",
                () -> Paths.isReset("a new object", new CertPathCheck(8)));
        acceptedCalls().forEach((name, call) ->
                Due.sentence("and after every accepted call of " + name, () -> resets(call)));
        Due.sentence("even one that writes values already there", LastResultTest::valuesAlreadyThere);
        Due.sentence("A refused call changes nothing at all, the last result included.", LastResultTest::refusedCalls);
        Due.sentence("status (NOT_VALIDATED, or an answer of validate)", LastResultTest::answersOfValidate);
        Due.sentence("These three read the last result and change nothing.", LastResultTest::readersChangeNothing);
        Due.sentence("-1 when the status is NOT_VALIDATED, OK or ERR_EMPTY", LastResultTest::noFailIndex);
        Due.sentence("otherwise the position at which validation failed", LastResultTest::failIndexes);
        Due.sentence("`getPolicies()` answers the accepted policy set F, and `getAuthorityPolicies()` answers the "
                + "authority policy set R", LastResultTest::eachOfTheTwoSets);
        Due.sentence("both are 0 unless the status is OK", LastResultTest::policiesOnlyWithOk);
        Due.end();
    }

    /** A path whose validate answered that status; its leaf has 4 subtrees of each kind, which do not bind. */
    private static CertPathCheck validated(int status, int capacity) {
        CertPathCheck x = Faulty.with(status, AT, N, capacity);
        for (int k = 0; k < 4; k++) {
            x.addSubtree(N - 1, CertPathCheck.PERMITTED, 0xF);
            x.addSubtree(N - 1, CertPathCheck.EXCLUDED, 0);
        }
        Faulty.isAsBuilt("status " + status, x, status, AT);
        return x;
    }

    private static Map<String, Predicate<CertPathCheck>> acceptedCalls() {
        Map<String, Predicate<CertPathCheck>> calls = new LinkedHashMap<>();
        calls.put("setAnchor", x -> x.setAnchor(0x21));
        calls.put("setInitial", x -> x.setInitial(2, 0));
        calls.put("addCert", x -> x.addCert(5, 6, 0, 100) >= 0);
        calls.put("removeLast", x -> x.removeLast());
        calls.put("setBasic", x -> x.setBasic(0, 7, 9));
        calls.put("addPolicy", x -> x.addPolicy(0, 4));
        calls.put("addMapping", x -> x.addMapping(0, 1, 2));
        calls.put("setPolicyConstraints", x -> x.setPolicyConstraints(0, 7, 8, 9));
        calls.put("addSubtree", x -> x.addSubtree(0, CertPathCheck.PERMITTED, 0));
        return calls;
    }

    private static void resets(Predicate<CertPathCheck> call) {
        for (int status = 0; status <= MOST; status++) {
            CertPathCheck x = validated(status, 8);
            boolean answer = call.test(x);
            Due.yes("accepted", answer || status == CertPathCheck.ERR_EMPTY);
            if (answer) {
                Paths.isReset("accepted after status " + status, x);
            } else {
                Paths.holds("refused for the empty list", x, CertPathCheck.ERR_EMPTY, -1, 0, 0);
            }
        }
    }

    /** The second of two like calls writes what is there. */
    private static void valuesAlreadyThere() {
        acceptedCalls().forEach((name, call) -> {
            CertPathCheck x = validated(CertPathCheck.OK, 8);
            call.test(x);
            x.validate(Paths.TIME);
            Due.yes(name + " again", call.test(x));
            Paths.isReset(name + " again", x);
        });
        CertPathCheck x = Paths.policied(3);
        x.validate(Paths.TIME);
        Paths.holds("before", x, CertPathCheck.OK, -1, 8, 8 + 32);
        x.removeLast();
        x.addCert(3, 4, 0, Paths.LATE - 1);
        Paths.policies(x, 2, 3, 5);
        Paths.isReset("the same certificate put back", x);
    }

    /** For a path of N certificates that is full, and whose leaf has all its subtrees. */
    private static Map<String, Predicate<CertPathCheck>> refused() {
        Map<String, Predicate<CertPathCheck>> calls = new LinkedHashMap<>();
        for (int name : Calls.notNames()) {
            calls.put("setAnchor(" + name + ")", x -> x.setAnchor(name));
            calls.put("addSubtree(0, 0, " + name + ")", x -> x.addSubtree(0, 0, name));
            calls.put("addSubtree(0, 1, " + name + ")", x -> x.addSubtree(0, 1, name));
        }
        calls.put("setInitial(-1, 0)", x -> x.setInitial(-1, 0));
        calls.put("setInitial(65536, 0)", x -> x.setInitial(65536, 0));
        calls.put("setInitial(1, -1)", x -> x.setInitial(1, -1));
        calls.put("setInitial(1, 8)", x -> x.setInitial(1, 8));
        calls.put("addSubtree(0, -1, 1)", x -> x.addSubtree(0, -1, 1));
        calls.put("addSubtree(0, 2, 1)", x -> x.addSubtree(0, 2, 1));
        calls.put("a fifth permitted subtree", x -> x.addSubtree(N - 1, CertPathCheck.PERMITTED, 1));
        calls.put("a fifth excluded subtree", x -> x.addSubtree(N - 1, CertPathCheck.EXCLUDED, 1));
        for (int cert : new int[] {Calls.LEAST, -1, N, 8, Calls.GREATEST}) {
            calls.put("setBasic of " + cert, x -> x.setBasic(cert, 1, 1));
            calls.put("addPolicy of " + cert, x -> x.addPolicy(cert, 1));
            calls.put("addMapping of " + cert, x -> x.addMapping(cert, 1, 1));
            calls.put("setPolicyConstraints of " + cert, x -> x.setPolicyConstraints(cert, 1, 1, 1));
            calls.put("addSubtree of " + cert, x -> x.addSubtree(cert, 0, 1));
        }
        for (int number : new int[] {-2, 16}) {
            calls.put("setBasic(0, 1, " + number + ")", x -> x.setBasic(0, 1, number));
            calls.put("requireExplicit " + number, x -> x.setPolicyConstraints(0, number, 1, 1));
            calls.put("inhibitMapping " + number, x -> x.setPolicyConstraints(0, 1, number, 1));
            calls.put("inhibitAny " + number, x -> x.setPolicyConstraints(0, 1, 1, number));
        }
        calls.put("setBasic(0, -1, 1)", x -> x.setBasic(0, -1, 1));
        calls.put("setBasic(0, 8, 1)", x -> x.setBasic(0, 8, 1));
        calls.put("addPolicy(0, -1)", x -> x.addPolicy(0, -1));
        calls.put("addPolicy(0, 16)", x -> x.addPolicy(0, 16));
        for (int policy : new int[] {0, 16}) {
            calls.put("addMapping(0, " + policy + ", 1)", x -> x.addMapping(0, policy, 1));
            calls.put("addMapping(0, 1, " + policy + ")", x -> x.addMapping(0, 1, policy));
        }
        return calls;
    }

    private static void refusedCalls() {
        for (int status = 0; status <= MOST; status++) {
            Map<String, Predicate<CertPathCheck>> calls = refused();
            if (status == CertPathCheck.ERR_EMPTY) {
                calls.put("removeLast", x -> x.removeLast());
            } else {
                calls.put("addCert", x -> x.addCert(5, 6, 0, 100) != -1);
            }
            calls.put("addCert of no name", x -> x.addCert(1, 0x10, 0, 100) != -1);
            for (String name : calls.keySet()) {
                CertPathCheck x = validated(status, N);
                Map<String, Integer> before = Reading.of(x);
                Due.no(name, calls.get(name).test(x));
                Due.changed(name + " after status " + status, before, Reading.of(x));
            }
        }
    }

    private static void answersOfValidate() {
        for (int status = 0; status <= MOST; status++) {
            CertPathCheck x = validated(status, N);
            Due.same("status", x.getField(-1, CertPathCheck.G_STATUS), status);
            x.setAnchor(1);
            Due.same("status", x.getField(-1, CertPathCheck.G_STATUS), CertPathCheck.NOT_VALIDATED);
        }
    }

    private static void readersChangeNothing() {
        for (int status = 0; status <= MOST; status++) {
            CertPathCheck x = validated(status, N);
            Map<String, Integer> before = Reading.of(x);
            int mask = status == CertPathCheck.OK ? 1 << 3 : 0;
            for (int k = 0; k < 3; k++) {
                Due.same("fail index", x.getFailIndex(), status <= CertPathCheck.ERR_EMPTY ? -1 : AT);
                Due.same("F", x.getPolicies(), mask);
                Due.same("R", x.getAuthorityPolicies(), mask);
            }
            Due.changed("readers after status " + status, before, Reading.of(x));
        }
    }

    /** Each time after a failure at 2, so that -1 is not what was there. */
    private static void noFailIndex() {
        CertPathCheck x = Paths.policied(3);
        Paths.validatesAt("a failure", x, Paths.LATE, CertPathCheck.ERR_VALIDITY, 2, 0, 0);
        x.validate(Paths.TIME);
        Due.same("OK", x.getFailIndex(), -1);
        x.validate(Paths.LATE);
        x.setAnchor(Paths.ANCHOR);
        Due.same("NOT_VALIDATED", x.getFailIndex(), -1);
        for (int k = 0; k < 3; k++) {
            x.validate(Paths.LATE);
            x.removeLast();
        }
        x.validate(Paths.TIME);
        Due.same("ERR_EMPTY", x.getFailIndex(), -1);
    }

    private static void failIndexes() {
        for (int n = 1; n <= 8; n++) {
            for (int at = 0; at < n; at++) {
                for (int status = CertPathCheck.ERR_VALIDITY; status <= MOST; status++) {
                    if (Faulty.possible(n, at, status)) {
                        CertPathCheck x = Faulty.with(status, at, n, n);
                        Due.same("status", x.validate(Paths.TIME), status);
                        Due.same("fail index of " + status + " in " + n, x.getFailIndex(), at);
                    }
                }
            }
        }
    }

    private static void eachOfTheTwoSets() {
        CertPathCheck x = Paths.policied(2);
        Paths.passes("F is part of R", x, 8, 8 + 32);
        x.setInitial(1 << 2, 0);
        Paths.passes("F is empty, R is not", x, 0, 8 + 32);
        x = Paths.chain(2);
        Paths.policies(x, 0, 0);
        Paths.policies(x, 1, 0);
        x.setInitial(65534, 0);
        Paths.passes("F is more than R", x, 65534, 1);
        x.setInitial(65535, 0);
        Paths.passes("F is R", x, 1, 1);
    }

    /** Each failure comes after an OK with policies in F and in R. */
    private static void policiesOnlyWithOk() {
        for (int n = 1; n <= 8; n++) {
            CertPathCheck x = Paths.policied(n);
            Paths.passes("OK", x, 8, 8 + 32);
            Paths.validatesAt("a failure", x, Paths.LATE, CertPathCheck.ERR_VALIDITY, n - 1, 0, 0);
            Paths.passes("OK again", x, 8, 8 + 32);
            x.addPolicy(0, 1);
            Paths.isReset("NOT_VALIDATED", x);
            Paths.passes("OK again", x, 8, n == 1 ? 2 + 8 + 32 : 8 + 32);
            x.setInitial(1 << 2, CertPathCheck.INIT_EXPLICIT);
            Paths.fails("a failure of the wrap-up", x, CertPathCheck.ERR_POLICY, n - 1);
            for (int k = 0; k < n; k++) {
                x.removeLast();
            }
            Paths.fails("ERR_EMPTY", x, CertPathCheck.ERR_EMPTY, -1);
        }
    }
}

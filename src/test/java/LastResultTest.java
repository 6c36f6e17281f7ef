import java.util.ArrayList;
import java.util.List;
import java.util.Map;
import java.util.function.ToIntFunction;

/** Promise 12 and the rules of the last result: who sets it, who resets it and who leaves it. */
public final class LastResultTest {
    public static void main(String[] args) {
        beforeAnyValidate();
        acceptedCallsResetIt();
        refusedCallsAndReadersLeaveIt();
        everyValidateWritesItWhole();
        Due.end();
    }

    private static void result(String what, CertPathCheck x, int status, int fail, int accepted, int authority) {
        Due.same(what + ", status", x.getField(-1, CertPathCheck.G_STATUS), status);
        Due.same(what + ", fail index", x.getFailIndex(), fail);
        Due.same(what + ", F", x.getPolicies(), accepted);
        Due.same(what + ", R", x.getAuthorityPolicies(), authority);
    }

    private static void reset(String what, CertPathCheck x) {
        result(what, x, CertPathCheck.NOT_VALIDATED, -1, 0, 0);
    }

    /** Passes at time 50 with R = {3, 5} and F = {3}; fails at time 101 at position 0. */
    private static CertPathCheck path() {
        CertPathCheck x = Paths.chain(3);
        x.setInitial(8 + 4, 0);
        for (int cert = 0; cert < 3; cert++) {
            Paths.policies(x, cert, 3, 5);
        }
        return x;
    }

    private static void beforeAnyValidate() {
        reset("a new object", new CertPathCheck(8));
        reset("a filled object", path());
    }

    private static void acceptedCallsResetIt() {
        List<ToIntFunction<CertPathCheck>> calls = new ArrayList<>();
        calls.add(x -> x.setAnchor(Paths.ANCHOR) ? 1 : -1);
        calls.add(x -> x.setInitial(12, 0) ? 1 : -1);
        calls.add(x -> x.addCert(4, 5, 0, 100));
        calls.add(x -> x.removeLast() ? 1 : -1);
        calls.add(x -> x.setBasic(2, 0, -1) ? 1 : -1);
        calls.add(x -> x.addPolicy(0, 3) ? 1 : -1);
        calls.add(x -> x.addMapping(2, 1, 1) ? 1 : -1);
        calls.add(x -> x.setPolicyConstraints(0, -1, -1, -1) ? 1 : -1);
        calls.add(x -> x.addSubtree(2, CertPathCheck.PERMITTED, 0) ? 1 : -1);
        for (int k = 0; k < calls.size(); k++) {
            CertPathCheck x = path();
            Paths.passes("path", x, 8, 8 + 32);
            Due.yes("call " + k, calls.get(k).applyAsInt(x) >= 0);
            reset("call " + k + " after OK", x);
            x = path();
            x.validate(101);
            result("a failure", x, CertPathCheck.ERR_VALIDITY, 0, 0, 0);
            Due.yes("call " + k, calls.get(k).applyAsInt(x) >= 0);
            reset("call " + k + " after a failure", x);
        }
    }

    private static void refuseAll(CertPathCheck x) {
        x.setAnchor(0x10);
        x.setInitial(-1, 0);
        x.setInitial(0, 8);
        x.addCert(0x10, 1, 0, 0);
        x.addCert(1, 0x10, 0, 0);
        x.setBasic(3, 0, 0);
        x.setBasic(0, 8, 0);
        x.setBasic(0, 0, 16);
        x.addPolicy(3, 0);
        x.addPolicy(0, 16);
        x.addMapping(3, 1, 1);
        x.addMapping(0, 0, 1);
        x.addMapping(0, 1, 0);
        x.setPolicyConstraints(3, 0, 0, 0);
        x.setPolicyConstraints(0, 16, 0, 0);
        x.setPolicyConstraints(0, 0, 16, 0);
        x.setPolicyConstraints(0, 0, 0, 16);
        x.addSubtree(3, 0, 0);
        x.addSubtree(0, 2, 0);
        x.addSubtree(0, 0, 0x10);
    }

    private static void refusedCallsAndReadersLeaveIt() {
        for (int time = Paths.TIME; time <= 101; time += 51) {
            CertPathCheck x = path();
            x.validate(time);
            Map<String, Integer> before = Reading.of(x);
            refuseAll(x);
            Due.changed("refused calls", before, Reading.of(x));
            Due.changed("readers", before, Reading.of(x));
        }
        CertPathCheck x = new CertPathCheck(8);
        x.validate(0);
        x.removeLast();
        result("a refused removeLast", x, CertPathCheck.ERR_EMPTY, -1, 0, 0);
    }

    private static void everyValidateWritesItWhole() {
        CertPathCheck x = path();
        Paths.passes("OK", x, 8, 8 + 32);
        Paths.validatesAt("a failure after OK", x, 101, CertPathCheck.ERR_VALIDITY, 0, 0, 0);
        Paths.passes("OK after a failure", x, 8, 8 + 32);
        x.addPolicy(2, 0);
        x.setInitial(2, CertPathCheck.INIT_EXPLICIT);
        Paths.fails("a failure of the wrap-up", x, CertPathCheck.ERR_POLICY, 2);
        x.removeLast();
        x.removeLast();
        x.removeLast();
        Paths.fails("empty after a failure", x, CertPathCheck.ERR_EMPTY, -1);
    }
}

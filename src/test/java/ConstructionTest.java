import java.util.Map;

/** Promise 1: construction and the starting state. */
public final class ConstructionTest {
    public static void main(String[] args) {
        capacityIsClamped();
        startingState();
        objectsAreApart();
        Due.end();
    }

    private static void capacityIsClamped() {
        int[] given = {Integer.MIN_VALUE, -8, -1, 0, 1, 2, 3, 4, 5, 6, 7, 8, 9, 16, 256, 257, Integer.MAX_VALUE};
        int[] kept = {1, 1, 1, 1, 1, 2, 3, 4, 5, 6, 7, 8, 8, 8, 8, 8, 8};
        for (int k = 0; k < given.length; k++) {
            CertPathCheck x = new CertPathCheck(given[k]);
            String what = "capacity " + given[k];
            Due.same(what, x.getField(-1, CertPathCheck.G_CAPACITY), kept[k]);
            for (int cert = 0; cert < kept[k]; cert++) {
                Due.same(what + ", addCert", x.addCert(0, 1, 0, 0), cert);
            }
            Due.same(what + ", addCert when full", x.addCert(0, 1, 0, 0), -1);
            x.removeLast();
            x.validate(0);
            Due.same(what + " afterwards", x.getField(-1, CertPathCheck.G_CAPACITY), kept[k]);
        }
    }

    private static void startingState() {
        CertPathCheck x = new CertPathCheck(3);
        Map<String, Integer> all = Reading.of(x);
        Due.same("count", all.get("count"), 0);
        Due.same("anchor", all.get("anchor"), 0);
        Due.same("U", all.get("U"), 1);
        Due.same("flags", all.get("flags"), 0);
        Due.same("status", all.get("status"), CertPathCheck.NOT_VALIDATED);
        Due.same("fail index", all.get("fail"), -1);
        Due.same("F", all.get("F"), 0);
        Due.same("R", all.get("R"), 0);
        for (int field = 0; field <= 11; field++) {
            Due.same("no certificate", x.getField(0, field), CertPathCheck.NO_VALUE);
        }
    }

    private static void objectsAreApart() {
        CertPathCheck one = new CertPathCheck(2);
        CertPathCheck other = new CertPathCheck(2);
        Map<String, Integer> before = Reading.of(other);
        one.setAnchor(7);
        one.setInitial(6, 7);
        one.addCert(7, 8, 0, 0);
        one.addPolicy(0, 3);
        one.addMapping(0, 1, 2);
        one.addSubtree(0, 0, 1);
        one.validate(0);
        Due.changed("another object", before, Reading.of(other));
    }
}

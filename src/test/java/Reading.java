import java.util.List;
import java.util.Map;
import java.util.TreeMap;

/** Reads all that the public face shows of an object, so that a test can see what a call changed. */
final class Reading {
    private static final String[] GLOBALS = {"count", "capacity", "anchor", "U", "flags", "status"};

    private Reading() {
    }

    static Map<String, Integer> of(CertPathCheck x) {
        Map<String, Integer> all = new TreeMap<>();
        for (int field = 0; field < GLOBALS.length; field++) {
            all.put(GLOBALS[field], x.getField(-1, field));
        }
        all.put("fail", x.getFailIndex());
        all.put("F", x.getPolicies());
        all.put("R", x.getAuthorityPolicies());
        for (int cert = 0; cert < 9; cert++) {
            addCert(all, x, cert);
        }
        return all;
    }

    private static void addCert(Map<String, Integer> all, CertPathCheck x, int cert) {
        for (int field = 0; field <= 11; field++) {
            all.put(field(cert, field), x.getField(cert, field));
        }
        for (int s = 0; s < 17; s++) {
            all.put(targets(cert, s), x.getMappingTargets(cert, s));
        }
        for (int kind = 0; kind <= 1; kind++) {
            for (int k = 0; k < 5; k++) {
                all.put(subtree(cert, kind, k), x.getSubtree(cert, kind, k));
            }
        }
    }

    static String field(int cert, int field) {
        return "cert " + cert + " field " + field;
    }

    static String targets(int cert, int s) {
        return "cert " + cert + " T(" + s + ")";
    }

    static String subtree(int cert, int kind, int k) {
        return "cert " + cert + " kind " + kind + " subtree " + k;
    }

    /** The reading without the last result. */
    static Map<String, Integer> stored(Map<String, Integer> reading) {
        Map<String, Integer> rest = new TreeMap<>(reading);
        rest.keySet().removeAll(List.of("status", "fail", "F", "R"));
        return rest;
    }

    /** The reading without what it says of one certificate. */
    static Map<String, Integer> without(Map<String, Integer> reading, int cert) {
        Map<String, Integer> rest = new TreeMap<>(reading);
        rest.keySet().removeIf(key -> key.startsWith("cert " + cert + " "));
        return rest;
    }
}

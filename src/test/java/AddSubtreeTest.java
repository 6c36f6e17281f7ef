/** Promise 10: addSubtree. */
public final class AddSubtreeTest {
    private static final int[] NOT_KINDS = {Calls.LEAST, Calls.LEAST + 1, -2, -1, 2, 3, 256, 257, Calls.GREATEST};

    public static void main(String[] args) {
        Due.sentence("answers false and changes nothing unless 0 <= cert < count",
                () -> Calls.onlyForHeldCerts("addSubtree", (x, cert) -> x.addSubtree(cert, cert & 1, 7)));
        Due.sentence("kind is PERMITTED (0) or EXCLUDED (1)", AddSubtreeTest::kinds);
        Due.sentence("name is a name", AddSubtreeTest::names);
        Due.sentence("cert has fewer than MAX_SUBTREES subtrees of that kind", AddSubtreeTest::full);
        Due.sentence("appends name at the end of cert's subtrees of that kind (duplicates allowed)",
                AddSubtreeTest::appended);
        Due.sentence("resets the last result, and answers true", AddSubtreeTest::resets);
        Due.sentence("The subtrees of the other kind and all other parts are unchanged.", AddSubtreeTest::nothingElse);
        Due.end();
    }

    private static void kinds() {
        CertPathCheck x = Paths.policied(3);
        for (int cert = 0; cert < 3; cert++) {
            int at = cert;
            for (int kind : NOT_KINDS) {
                Calls.refused("kind " + kind, x, () -> x.addSubtree(at, kind, 1));
            }
        }
        Due.yes("PERMITTED", x.addSubtree(1, 0, 1));
        Due.yes("EXCLUDED", x.addSubtree(1, 1, 1));
    }

    private static void names() {
        CertPathCheck x = Paths.policied(3);
        for (int kind = 0; kind <= 1; kind++) {
            int given = kind;
            for (int value : Calls.notNames()) {
                Calls.refused("name " + value, x, () -> x.addSubtree(1, given, value));
            }
            Due.yes("the least name", x.addSubtree(1, kind, 0));
            Due.yes("the greatest name", x.addSubtree(1, kind, 65535));
        }
    }

    private static void full() {
        Due.same("MAX_SUBTREES", CertPathCheck.MAX_SUBTREES, 4);
        for (int cert = 0; cert < 3; cert++) {
            for (int kind = 0; kind <= 1; kind++) {
                CertPathCheck x = Paths.policied(3);
                int at = cert;
                int given = kind;
                for (int k = 0; k < 4; k++) {
                    Due.yes("subtree " + k, x.addSubtree(cert, kind, kind == 0 ? 0 : 0xF));
                }
                for (int k = 4; k < 10; k++) {
                    Calls.refused("subtree " + k, x, () -> x.addSubtree(at, given, 0xF));
                }
                for (int k = 0; k < 4; k++) {
                    Due.yes("subtree " + k + " of the other kind", x.addSubtree(cert, 1 - kind, 1));
                    Due.yes("subtree " + k + " of another one", x.addSubtree((cert + 1) % 3, kind, 1));
                }
                Due.no("still full", x.addSubtree(cert, kind, 1));
            }
        }
    }

    private static void appended() {
        int[][] rows = {{1, 2, 3, 4}, {0x4321, 0, 0x15, 0x15}, {0, 0, 0, 0}, {0xFFFF, 0xFFF, 0xFF, 0xF}};
        for (int[] names : rows) {
            for (int kind = 0; kind <= 1; kind++) {
                CertPathCheck x = Paths.chain(3);
                for (int k = 0; k < 4; k++) {
                    Due.yes("addSubtree", x.addSubtree(1, kind, names[k]));
                    for (int j = 0; j < 5; j++) {
                        int due = j <= k ? names[j] : -1;
                        Due.same("subtree " + j + " of " + (k + 1), x.getSubtree(1, kind, j), due);
                    }
                }
            }
        }
    }

    private static void resets() {
        CertPathCheck x = Paths.policied(3);
        for (int kind = 0; kind <= 1; kind++) {
            int given = kind;
            for (int k = 0; k < 4; k++) {
                Calls.accepted("a duplicate, kind " + kind, x, () -> x.addSubtree(2, given, 6),
                        Reading.field(2, 10 + kind), Reading.subtree(2, kind, k));
            }
        }
    }

    private static void nothingElse() {
        CertPathCheck x = Paths.policied(8);
        for (int k = 0; k < 4; k++) {
            for (int cert = 0; cert < 8; cert++) {
                for (int kind = 0; kind <= 1; kind++) {
                    int at = cert;
                    int given = kind;
                    int name = 1 + 16 * (cert + 1) + 256 * (kind + 1) + 4096 * (k + 1);
                    Calls.accepted("of " + cert + ", kind " + kind, x, () -> x.addSubtree(at, given, name),
                            Reading.field(cert, 10 + kind), Reading.subtree(cert, kind, k));
                }
            }
        }
    }
}

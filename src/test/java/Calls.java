import java.util.ArrayList;
import java.util.List;
import java.util.Map;
import java.util.function.BooleanSupplier;

/** Makes calls on objects that hold a result, and looks at the answers and at all that the calls change. */
final class Calls {
    static final int LEAST = Integer.MIN_VALUE;
    static final int GREATEST = Integer.MAX_VALUE;

    /** Ints that are no name: negative, above 65535, and with a 0 group before a label. */
    static final int[] NEGATIVE = {LEAST, LEAST + 1, 0x80001234, 0xFFFF0001, -65536, -65535, -16, -2, -1};
    static final int[] ABOVE_NAMES = {65536, 65537, 0x10011, 0x11111, 0x1FFFF, 0x10000000, 0x10000001, GREATEST};
    static final int[] ZERO_BEFORE_LABEL = {0x0010, 0x0100, 0x1000, 0x0110, 0x1100, 0x1110, 0x0101, 0x1001,
        0x1011, 0x1101, 0xF000, 0xF0FF, 0xFF0F, 0xFFF0, 0x0F0F, 0xF00F};

    /** Ints outside -1..15. */
    static final int[] NOT_NUMBERS = {LEAST, LEAST + 1, -17, -3, -2, 16, 17, 255, GREATEST};

    /** Ints outside 0..7. */
    static final int[] NOT_FLAGS = {LEAST, LEAST + 1, -8, -2, -1, 8, 9, 15, 16, GREATEST};

    /** Ints outside 0..15; as distances of a shift some of them are like ints within it. */
    static final int[] NOT_POLICIES = {LEAST, LEAST + 1, -32, -31, -16, -1, 16, 17, 31, 32, 33, 47, 64, GREATEST};

    interface Writer {
        boolean write(CertPathCheck x, int cert);
    }

    private Calls() {
    }

    static int[] notNames() {
        List<Integer> all = new ArrayList<>();
        for (int[] some : new int[][] {NEGATIVE, ABOVE_NAMES, ZERO_BEFORE_LABEL}) {
            for (int value : some) {
                all.add(value);
            }
        }
        return all.stream().mapToInt(value -> value).toArray();
    }

    /** Ints outside 0..count-1; the great ones are within it again if they are multiplied by 8, 12 or 16. */
    static int[] notCerts(int count) {
        return new int[] {LEAST, LEAST + 1, -9, -2, -1, count, count + 1, count + 8, 9, 16, 268435456, 357913941,
            357913942, 536870912, GREATEST};
    }

    /** The call is accepted: it resets the last result and changes the named readings, no others. */
    static void accepted(String what, CertPathCheck x, BooleanSupplier call, String... keys) {
        x.validate(Paths.TIME);
        Map<String, Integer> before = Reading.of(x);
        Due.yes(what + ", a result before it", before.get("status") != CertPathCheck.NOT_VALIDATED);
        Due.yes(what, call.getAsBoolean());
        Map<String, Integer> after = Reading.of(x);
        Paths.isReset(what, x);
        Due.changed(what, Reading.stored(before), Reading.stored(after), keys);
    }

    /** The call is refused and changes nothing, whichever the last result is. */
    static void refused(String what, CertPathCheck x, BooleanSupplier call) {
        for (int time : new int[] {Paths.TIME, Paths.LATE}) {
            x.validate(time);
            Map<String, Integer> before = Reading.of(x);
            Due.no(what, call.getAsBoolean());
            Due.changed(what, before, Reading.of(x));
        }
    }

    /** The call is taken for each certificate of the list and refused for every other int. */
    static void onlyForHeldCerts(String what, Writer writer) {
        for (int count = 0; count <= 8; count++) {
            onlyForHeldCerts(what + " of " + count, writer, Paths.policied(count));
            CertPathCheck shrunk = Paths.policied(8);
            for (int k = count; k < 8; k++) {
                shrunk.removeLast();
            }
            onlyForHeldCerts(what + " of " + count + " left", writer, shrunk);
        }
    }

    private static void onlyForHeldCerts(String what, Writer writer, CertPathCheck x) {
        int count = x.getField(-1, CertPathCheck.G_COUNT);
        for (int cert : notCerts(count)) {
            refused(what + ", cert " + cert, x, () -> writer.write(x, cert));
        }
        for (int cert = 0; cert < count; cert++) {
            Due.yes(what + ", cert " + cert, writer.write(x, cert));
        }
    }
}

import java.nio.charset.StandardCharsets;
import java.util.ArrayList;
import java.util.List;
import java.util.function.IntSupplier;

/** Counts checks, prints those that fail, and feeds texts to a depot. */
final class Checks {
    private int passed = 0;
    private int failed = 0;

    void same(String label, long got, long want) {
        if (got == want) {
            passed++;
        } else {
            failed++;
            if (failed <= 50) {
                System.out.println(label + " answered " + got + ", due is " + want);
            }
        }
    }

    void yes(String label, boolean got) {
        same(label, got ? 1 : 0, 1);
    }

    void no(String label, boolean got) {
        same(label, got ? 1 : 0, 0);
    }

    /** A call that is refused, or that only asks: it answers what is due, and changes nothing. */
    void still(String label, DepotCharge depot, IntSupplier call, long want) {
        List<Integer> before = stateOf(depot);
        same(label, call.getAsInt(), want);
        yes(label + " changes nothing", stateOf(depot).equals(before));
    }

    /** All that is told of a depot, as the calls that only ask answer it. */
    static List<Integer> stateOf(DepotCharge depot) {
        List<Integer> all = new ArrayList<>();
        all.add(depot.fault());
        for (int what = 0; what < 18; what++) {
            all.add(depot.count(what));
        }
        for (int b = 0; b < depot.count(1); b++) {
            for (int what = 0; what < 6; what++) {
                all.add(depot.told(b, what));
            }
        }
        for (int c = 0; c < depot.count(2); c++) {
            for (int k = -1; k < 4; k++) {
                all.add(depot.curve(c, k, 0));
                all.add(depot.curve(c, k, 1));
            }
        }
        for (int s = 0; s < 8; s++) {
            all.add(depot.plan(s));
        }
        return all;
    }

    void finish() {
        System.out.println(passed + " passed, " + failed + " failed");
        if (failed != 0) {
            System.exit(1);
        }
    }

    static void feed(DepotCharge depot, String text) {
        byte[] bytes = text.getBytes(StandardCharsets.ISO_8859_1);
        int before = depot.count(6);
        int[] n = new int[5];
        for (int at = 0; at < bytes.length; at += 20) {
            for (int i = 0; i < 5; i++) {
                n[i] = 0;
                for (int k = 0; k < 4; k++) {
                    int place = at + i * 4 + k;
                    n[i] = n[i] << 8 | (place < bytes.length ? bytes[place] & 255 : 0);
                }
            }
            depot.feed(n[0], n[1], n[2], n[3], n[4]);
        }
        depot.end(before + bytes.length);
    }

    static int tell(DepotCharge depot, String text) {
        feed(depot, text);
        return depot.tell();
    }

    /** A new depot that has been told a text; a FAULT there is a mistake of the test's own. */
    static DepotCharge depot(String text) {
        DepotCharge depot = new DepotCharge();
        if (tell(depot, text) == DepotCharge.NONE) {
            throw new IllegalStateException("the test's own text has fault " + depot.fault() + ": " + text);
        }
        return depot;
    }
}

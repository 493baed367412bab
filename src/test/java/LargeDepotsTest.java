import java.util.ArrayList;
import java.util.Arrays;
import java.util.Random;

/**
 * Depots of four BUSES and eight SLOTS, by chance (the same each time): what is asked as "had", "were"
 * and "least" must be what a depot answers that has been told so, and no small change betters BEST.
 */
public final class LargeDepotsTest {
    private static final Checks C = new Checks();
    private static final int[] MOST = {4, 50, 200};
    private static final int T = 8;
    private final Random chance;
    private final String label;
    private final StringBuilder curves = new StringBuilder();
    private final int[] settings = new int[3];
    private final int[] prices = new int[T];
    private final int[][] buses = new int[4][];

    private LargeDepotsTest(int seed) {
        chance = new Random(seed);
        label = "seed " + seed + ", ";
        boolean roomy = chance.nextBoolean();
        settings[0] = between(1, 4);
        settings[1] = between(5, 50);
        settings[2] = roomy ? between(40, 200) : between(10, 60);
        for (int s = 0; s < T; s++) {
            prices[s] = between(0, roomy ? 99 : 3);
        }
        curves.append("curve 0 ").append(between(5, 50)).append(' ').append(between(1, 99)).append(' ').append(between(1, 30));
        curves.append(";curve 0 ").append(between(1, 50)).append(';');
        for (int b = 0; b < 4; b++) {
            int capacity = between(20, 200);
            int level = between(0, capacity / 2);
            int comes = between(0, 3);
            // Every other depot has so little NEED that it can mostly be met.
            int need = seed % 2 == 0 ? between(0, capacity) : level + between(0, Math.min(40, capacity - level));
            int goes = seed % 2 == 0 ? between(comes + 1, T) : between(comes + 3, T);
            buses[b] = new int[] {between(0, 1), capacity, level, need, comes, goes};
        }
    }

    public static void main(String[] args) {
        int depots = args.length > 0 ? Integer.parseInt(args[0]) : 60;
        int first = args.length > 1 ? Integer.parseInt(args[1]) : 1;
        int ready = 0;
        for (int seed = first; seed < first + depots; seed++) {
            LargeDepotsTest one = new LargeDepotsTest(seed);
            one.bestAsTheNaiveOne();
            one.noSmallChangeIsBetter();
            one.noRuleIsBetter();
            one.wereAsToldSo();
            one.lateAsToldSo();
            one.withoutAsToldSo();
            ready += one.depot(one.buses).best(3) == 0 ? 1 : 0;
        }
        C.yes("depots with LACK and without: " + ready + " of " + depots, ready > depots / 4 && ready < depots * 3 / 4);
        C.finish();
    }

    private int between(int low, int high) {
        return low + chance.nextInt(high - low + 1);
    }

    private DepotCharge depot(int[][] those) {
        DepotCharge d = Checks.depot("slots " + T + ";" + curves + "plugs " + settings[0] + ";power " + settings[1]
            + ";limit " + settings[2] + ";");
        for (int s = 0; s < T; s++) {
            d.set(3 + s, prices[s]);
        }
        for (int[] b : those) {
            C.yes(label + "bus", d.bus(b[0], b[1], b[2], b[3], b[4], b[5]) >= 0);
        }
        return d;
    }

    private static int costIfReady(DepotCharge d) {
        return d.best(3) == 0 ? d.best(0) : -2;
    }

    private static int[] figures(DepotCharge d) {
        int[] all = new int[3 + T];
        all[0] = d.sum(3);
        all[1] = d.sum(0);
        all[2] = d.sum(2);
        for (int s = 0; s < T; s++) {
            all[3 + s] = d.plan(s);
        }
        return all;
    }

    private void bestAsTheNaiveOne() {
        DepotCharge d = depot(buses);
        Naive.State st = new Naive.State();
        st.t = T;
        st.settings = settings.clone();
        st.prices.clear();
        for (int s = 0; s < T; s++) {
            st.prices.add(prices[s]);
        }
        for (int c = 0; c < 2; c++) {
            st.curves.add(new ArrayList<>());
            for (int k = 0; k < d.curve(c, -1, 0); k++) {
                st.curves.get(c).add(new int[] {d.curve(c, k, 0), d.curve(c, k, 1)});
            }
        }
        st.buses.addAll(Arrays.asList(buses));
        int[] want = Naive.best(st);
        d.take();
        for (int s = 0; s < T; s++) {
            C.same(label + "best, slot " + s, d.plan(s), want[s]);
        }
    }

    private void noSmallChangeIsBetter() {
        DepotCharge d = depot(buses);
        int charges = d.take();
        C.same(label + "charges", charges, d.best(2));
        C.same(label + "cost", d.sum(0), d.best(0));
        C.same(label + "peak", d.sum(1), d.best(1));
        C.same(label + "lack", d.sum(3), d.best(3));
        C.yes(label + "wrong by 4 alone", d.best(3) == 0 ? d.sum(4) == 0 : d.sum(4) % 8 == 4);
        int[] best = figures(d);
        for (int i = 0; i < 4 * T; i++) {
            flip(d, i);
            for (int k = i; k < 4 * T; k++) {
                if (k > i) {
                    flip(d, k);
                }
                boolean right = d.sum(4) == 0 || d.sum(4) % 8 == 4;
                C.yes(label + "changed " + i + " " + k, !right || Arrays.compare(best, figures(d)) < 0);
                if (k > i) {
                    flip(d, k);
                }
            }
            flip(d, i);
        }
    }

    private static void flip(DepotCharge d, int place) {
        boolean is = (d.plan(place / 4) >> place % 4 & 1) == 1;
        d.charge(place / 4, place % 4, !is);
    }

    private void noRuleIsBetter() {
        DepotCharge d = depot(buses);
        d.take();
        int[] best = figures(d);
        int[] leastOfRules = null;
        int rule = -1;
        for (int r = 0; r < 4; r++) {
            DepotCharge by = depot(buses);
            C.same(label + "charges by " + r, by.takeRule(r), d.rule(r, 2));
            C.yes(label + "right but for lack by " + r, by.sum(4) == 0 || by.sum(4) % 8 == 4);
            int[] mine = figures(by);
            C.yes(label + "rule " + r, Arrays.compare(best, mine) <= 0);
            for (int s = 0; s < T; s++) {
                C.same(label + "rule " + r + ", slot " + s, d.rule(r, 10 + s), by.plan(s));
            }
            if (rule < 0 || mine[0] < leastOfRules[0] || mine[0] == leastOfRules[0] && mine[1] < leastOfRules[1]) {
                rule = r;
                leastOfRules = mine;
            }
        }
        C.same(label + "best rule", d.bestRule(), rule);
    }

    private void wereAsToldSo() {
        DepotCharge d = depot(buses);
        for (int what = 0; what < 3; what++) {
            DepotCharge other = depot(buses);
            int first = -1;
            for (int v = 1; v <= MOST[what]; v++) {
                other.set(what, v);
                int want = costIfReady(other);
                C.same(label + "were " + what + " " + v, d.were(what, v), want);
                if (first < 0 && want != -2) {
                    first = v;
                }
            }
            C.same(label + "least " + what, d.least(what), first);
        }
    }

    private void lateAsToldSo() {
        DepotCharge d = depot(buses);
        for (int b = 0; b < 4; b++) {
            int latest = -2;
            for (int by = 0; by <= 8; by++) {
                int[][] those = buses.clone();
                those[b] = buses[b].clone();
                those[b][4] += by;
                int want;
                if (those[b][4] < those[b][5]) {
                    want = costIfReady(depot(those));
                } else {
                    want = buses[b][2] < buses[b][3] ? -2 : d.without(15 & ~(1 << b));
                }
                C.same(label + "late " + b + " " + by, d.late(b, by), want);
                latest = want == -2 ? latest : by;
            }
            C.same(label + "latest " + b, d.latest(b), latest);
        }
    }

    private void withoutAsToldSo() {
        DepotCharge d = depot(buses);
        for (int set = 0; set < 16; set++) {
            int[][] those = new int[Integer.bitCount(set)][];
            int n = 0;
            for (int b = 0; b < 4; b++) {
                if ((set >> b & 1) == 1) {
                    those[n] = buses[b];
                    n++;
                }
            }
            C.same(label + "without " + set, d.without(set), costIfReady(depot(those)));
        }
    }
}

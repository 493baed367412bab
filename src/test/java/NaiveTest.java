import java.util.NoSuchElementException;
import java.util.Random;

/** Runs of calls by chance (the same ones each time), compared with what Naive answers. */
public final class NaiveTest {
    private static final Checks C = new Checks();
    private static final String[] WORDS = {"slots", "price", "plugs", "power", "limit", "curve", "bus", "charge"};
    private static final int LONG_RUN = 480;
    private Random chance;
    private DepotCharge real;
    private Naive naive;
    private String label;

    public static void main(String[] args) {
        int runs = args.length > 0 ? Integer.parseInt(args[0]) : 1500;
        int first = args.length > 1 ? Integer.parseInt(args[1]) : 1;
        for (int seed = first; seed < first + runs; seed++) {
            new NaiveTest().run(seed);
        }
        C.finish();
    }

    private void run(int seed) {
        chance = new Random(seed);
        real = new DepotCharge();
        naive = new Naive();
        text(wellFormedStart());
        // An object is used for 512 calls: some runs go so far, so that nothing of earlier calls is left over.
        int calls = seed % 25 == 0 ? LONG_RUN : 20 + below(60);
        for (int i = 0; i < calls; i++) {
            label = "seed " + seed + ", call " + i + ", ";
            call();
        }
        if (naive.st.t * naive.st.buses.size() <= 12) {
            bestOfAll();
        }
    }

    private int below(int n) {
        return chance.nextInt(n);
    }

    private int between(int low, int high) {
        return low + chance.nextInt(high - low + 1);
    }

    /** Mostly a number within bounds, at times one just outside or far outside. */
    private int about(int low, int high) {
        int[] far = {Integer.MIN_VALUE, Integer.MAX_VALUE, -2, 32, 64, 1 << 30};
        switch (below(20)) {
            case 0: return low - 1;
            case 1: return high + 1;
            case 2: return far[below(far.length)];
            default: return high < low ? low : between(low, high);
        }
    }

    private void same(String call, long got, long want) {
        C.same(label + call, got, want);
    }

    private void same(String call, boolean got, boolean want) {
        C.same(label + call, got ? 1 : 0, want ? 1 : 0);
    }

    private void text(String text) {
        label = "'" + text + "' ";
        String padded = text;
        for (int at = 0; at < text.length(); at += 20) {
            while (padded.length() < at + 20) {
                padded += " ";
            }
            int[] n = new int[5];
            for (int i = 0; i < 20; i++) {
                n[i / 4] = n[i / 4] << 8 | padded.charAt(at + i);
            }
            same("feed", real.feed(n[0], n[1], n[2], n[3], n[4]), naive.feed(n));
        }
        same("end", real.end(text.length()), naive.end(text.length()));
        same("tell", real.tell(), naive.tell());
        same("fault", real.fault(), naive.fault);
    }

    private String curve() {
        StringBuilder s = new StringBuilder("curve 0 " + between(1, 50));
        int from = 0;
        for (int k = below(4); k > 0; k--) {
            from += between(1, 40);
            if (from <= 100) {
                s.append(" ").append(from).append(" ").append(between(1, 50));
            }
        }
        return s.append(";").toString();
    }

    private String bus(int t) {
        int capacity = chance.nextBoolean() ? between(1, 200) : between(20, 120);
        int comes = below(t);
        if (chance.nextInt(3) > 0) {
            comes = Math.min(comes, below(t));
        }
        return "bus " + below(Math.max(1, naive.st.curves.size())) + " " + capacity + " "
            + between(0, capacity / 2) + " " + between(0, capacity) + " " + comes + " " + between(comes + 1, t) + ";";
    }

    private String wellFormedStart() {
        StringBuilder s = new StringBuilder();
        int t = between(1, 8);
        s.append("slots ").append(t).append(";");
        for (int i = below(t + 1); i > 0; i--) {
            s.append("price ").append(below(t)).append(" ").append(chance.nextBoolean() ? below(4) : below(100)).append(";");
        }
        s.append("plugs ").append(between(1, 4)).append(";power ").append(between(5, 50));
        s.append(";limit ").append(between(10, chance.nextBoolean() ? 60 : 200)).append(";");
        for (int i = between(1, 3); i > 0; i--) {
            s.append(curve());
        }
        for (int i = below(t >= 7 ? 4 : 5); i > 0; i--) {
            s.append(bus(t));
        }
        return s.length() > 400 ? s.substring(0, 400) : s.toString();
    }

    private String broken(String text) {
        StringBuilder s = new StringBuilder(text);
        for (int i = below(3); i > 0 && s.length() > 0; i--) {
            int at = below(s.length());
            switch (below(4)) {
                case 0: s.deleteCharAt(at); break;
                case 1: s.insert(at, (char) below(256)); break;
                case 2: s.insert(at, below(10)); break;
                default: s.setCharAt(at, " ;09az\n".charAt(below(7))); break;
            }
        }
        return s.length() > 400 ? s.substring(0, 400) : s.toString();
    }

    private String statement() {
        int t = naive.st.t;
        switch (below(8)) {
            case 0: return "price " + below(t + 1) + " " + below(110) + ";";
            case 1: return "plugs " + below(6) + ";";
            case 2: return "power " + below(55) + ";";
            case 3: return "limit " + below(220) + ";";
            case 4: return curve();
            case 5: return chance.nextInt(6) == 0 ? "slots " + below(10) + ";" : "";
            case 6: return bus(t);
            default: {
                StringBuilder s = new StringBuilder("charge " + below(t + 1));
                for (int i = below(4); i > 0; i--) {
                    s.append(" ").append(below(naive.st.buses.size() + 1));
                }
                return s.append(";").toString();
            }
        }
    }

    private String soup() {
        StringBuilder s = new StringBuilder();
        for (int i = below(30); i > 0; i--) {
            switch (below(4)) {
                case 0: s.append(WORDS[below(8)]); break;
                case 1: s.append(" ").append(below(12)); break;
                case 2: s.append(";"); break;
                default: s.append(" ").append(below(200)); break;
            }
        }
        return s.toString();
    }

    private void call() {
        int group = below(10);
        if (group == 0) {
            String before = label;
            text(below(8) == 0 ? soup() : broken(statement() + (chance.nextBoolean() ? statement() : "")));
            label = before;
        } else if (group < 4) {
            change();
        } else if (group < 7) {
            ask();
        } else {
            askDear();
        }
    }

    private void change() {
        int t = naive.st.t;
        int buses = naive.st.buses.size();
        switch (below(8)) {
            case 0: {
                int what = about(0, 2 + t);
                int v = what == 0 ? about(1, 4) : what == 1 ? about(1, 50) : what == 2 ? about(1, 200) : about(0, 99);
                same("set " + what + " " + v, real.set(what, v), naive.set(what, v));
                break;
            }
            case 1: {
                int capacity = about(1, 200);
                int most = capacity < 1 || capacity > 200 ? 10 : capacity;
                int[] b = {about(0, naive.st.curves.size() - 1), capacity, about(0, most), about(0, most), about(0, t - 1), about(1, t)};
                same("bus", real.bus(b[0], b[1], b[2], b[3], b[4], b[5]), naive.bus(b[0], b[1], b[2], b[3], b[4], b[5]));
                break;
            }
            case 2:
                if (below(3) == 0) {
                    same("drop", real.drop(), naive.drop());
                }
                break;
            case 3:
                if (below(4) == 0) {
                    same("clear", real.clear(), naive.clear());
                }
                break;
            case 4: {
                int rule = about(0, 3);
                same("takeRule " + rule, real.takeRule(rule), naive.takeRule(rule));
                break;
            }
            case 5: same("take", real.take(), naive.take()); break;
            default: {
                int s = about(0, t - 1);
                int b = about(0, buses - 1);
                boolean is = below(3) > 0;
                same("charge " + s + " " + b, real.charge(s, b, is), naive.charge(s, b, is));
                break;
            }
        }
    }

    private void ask() {
        int t = naive.st.t;
        int b = about(0, naive.st.buses.size() - 1);
        int s = about(0, t - 1);
        switch (below(12)) {
            case 0: same("told", told(b, s), toldNaive(b, s)); break;
            case 1: {
                int what = about(0, 17);
                same("count " + what, real.count(what), naive.count(what));
                break;
            }
            case 2: {
                int c = about(0, naive.st.curves.size() - 1);
                int k = about(-1, 3);
                int what = about(0, 1);
                same("curve " + c + " " + k + " " + what, real.curve(c, k, what), naive.curve(c, k, what));
                break;
            }
            case 3:
            case 4: {
                int level = about(0, 150);
                same("takes " + b + " " + level, real.takes(b, level), naive.takes(b, level));
                break;
            }
            case 5:
            case 6: {
                int from = about(0, 120);
                int to = about(0, 150);
                same("slots " + b + " " + from + " " + to, real.slots(b, from, to), naive.slots(b, from, to));
                break;
            }
            case 7: same("plan " + s, real.plan(s), naive.plan(s)); break;
            case 8: {
                int slot = about(0, t);
                same("level " + b + " " + slot, real.level(b, slot), naive.level(b, slot));
                break;
            }
            case 9: same("used " + s, real.used(s), naive.used(s)); break;
            case 10: same("lack " + b, real.lack(b), naive.lack(b)); break;
            default: {
                int what = about(0, 4);
                same("sum " + what, real.sum(what), naive.sum(what));
                break;
            }
        }
    }

    private int told(int b, int what) {
        try {
            return real.told(b, what);
        } catch (NoSuchElementException e) {
            return -99;
        }
    }

    private int toldNaive(int b, int what) {
        try {
            return naive.told(b, what);
        } catch (NoSuchElementException e) {
            return -99;
        }
    }

    private void askDear() {
        int buses = naive.st.buses.size();
        int b = about(0, buses - 1);
        switch (below(10)) {
            case 0:
            case 1: {
                int what = about(0, 3);
                same("best " + what, real.best(what), naive.best(what));
                break;
            }
            case 2:
            case 3: {
                int by = about(0, 8);
                same("late " + b + " " + by, real.late(b, by), naive.late(b, by));
                break;
            }
            case 4: same("latest " + b, real.latest(b), naive.latest(b)); break;
            case 5: {
                int what = about(0, 2);
                int v = what == 0 ? about(1, 4) : what == 1 ? about(1, 50) : about(1, 200);
                same("were " + what + " " + v, real.were(what, v), naive.were(what, v));
                break;
            }
            case 6:
                if (naive.st.t * buses <= 16) {
                    int what = about(0, 2);
                    same("least " + what, real.least(what), naive.least(what));
                }
                break;
            case 7: {
                int set = about(0, (1 << buses) - 1);
                same("without " + set, real.without(set), naive.without(set));
                break;
            }
            case 8: same("bestRule", real.bestRule(), naive.bestRule()); break;
            default: {
                int rule = about(0, 3);
                int what = chance.nextBoolean() ? about(0, 3) : about(10, 9 + naive.st.t);
                same("rule " + rule + " " + what, real.rule(rule, what), naive.rule(rule, what));
                break;
            }
        }
    }

    private void bestOfAll() {
        int[] want = Naive.bestOfAll(naive.st);
        real.take();
        for (int s = 0; s < want.length; s++) {
            same("best of all, slot " + s, real.plan(s), want[s]);
        }
    }
}

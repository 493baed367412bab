import java.nio.charset.StandardCharsets;
import java.util.ArrayList;
import java.util.Arrays;
import java.util.HashMap;
import java.util.List;
import java.util.Map;
import java.util.NoSuchElementException;
import java.util.regex.Matcher;
import java.util.regex.Pattern;

/** The document once more, written as slowly and as plainly as can be, to be compared with. */
final class Naive {
    static final class State {
        int t = 4;
        int[] settings = {1, 20, 40};
        List<Integer> prices = new ArrayList<>(List.of(10, 10, 10, 10));
        List<List<int[]>> curves = new ArrayList<>();
        List<int[]> buses = new ArrayList<>();
        List<List<Integer>> plan = new ArrayList<>();

        State() {
            emptyPlan();
        }

        void emptyPlan() {
            plan = new ArrayList<>();
            for (int s = 0; s < t; s++) {
                plan.add(new ArrayList<>());
            }
        }

        State copy() {
            State c = new State();
            c.t = t;
            c.settings = settings.clone();
            c.prices = new ArrayList<>(prices);
            c.curves = new ArrayList<>(curves);
            c.buses = new ArrayList<>();
            for (int[] b : buses) {
                c.buses.add(b.clone());
            }
            c.plan = new ArrayList<>();
            for (List<Integer> set : plan) {
                c.plan.add(new ArrayList<>(set));
            }
            return c;
        }
    }

    /** A PLAN's tail: LACK, COST, CHARGES, sets. */
    record Tail(int lack, int cost, int charges, int[] sets) {
        boolean isBetterThan(Tail o) {
            if (lack != o.lack) {
                return lack < o.lack;
            }
            if (cost != o.cost) {
                return cost < o.cost;
            }
            if (charges != o.charges) {
                return charges < o.charges;
            }
            return Arrays.compare(sets, o.sets) < 0;
        }
    }

    State st = new State();
    String tape = "";
    int fault = 0;
    private static final int[] MOST = {4, 50, 200};

    // ---- what is told

    int feed(int... n) {
        if (tape.length() > 380) {
            return -1;
        }
        byte[] bytes = java.nio.ByteBuffer.allocate(20).putInt(n[0]).putInt(n[1]).putInt(n[2]).putInt(n[3]).putInt(n[4]).array();
        tape += new String(bytes, StandardCharsets.ISO_8859_1);
        return tape.length();
    }

    boolean end(int n) {
        if (n < 0 || n > tape.length()) {
            return false;
        }
        tape = tape.substring(0, n);
        return true;
    }

    private record Token(String text, int place) { }

    private static final class Fault extends RuntimeException {
        private static final long serialVersionUID = 1;
        final int code;

        Fault(int kind, Token at) {
            code = kind + 8 * at.place;
        }
    }

    int tell() {
        String text = tape;
        tape = "";
        List<Token> tokens = new ArrayList<>();
        Matcher m = Pattern.compile("[a-z]+|[0-9]+|[^ \n]", Pattern.DOTALL).matcher(text);
        while (m.find()) {
            tokens.add(new Token(m.group(), m.start()));
        }
        tokens.add(new Token("", text.length()));
        State draft = st.copy();
        int told = 0;
        int at = 0;
        try {
            while (!tokens.get(at).text.isEmpty()) {
                at = statement(draft, tokens, at);
                told++;
            }
        } catch (Fault f) {
            fault = f.code;
            return -1;
        }
        fault = 0;
        st = draft;
        return told;
    }

    private static boolean isDigits(Token token) {
        return token.text.matches("[0-9]+");
    }

    private static int num(Token token, int low, int high) {
        if (!token.text.matches("[0-9]{1,4}")) {
            throw new Fault(1, token);
        }
        int n = Integer.parseInt(token.text);
        if (n < low || n > high) {
            throw new Fault(2, token);
        }
        return n;
    }

    private int statement(State d, List<Token> tokens, int first) {
        int at = first;
        Token word = tokens.get(at++);
        switch (word.text) {
            case "slots": {
                d.t = num(tokens.get(at++), 1, 8);
                d.prices = new ArrayList<>();
                for (int i = 0; i < d.t; i++) {
                    d.prices.add(10);
                }
                d.buses.clear();
                d.emptyPlan();
                break;
            }
            case "price": {
                int s = num(tokens.get(at++), 0, d.t - 1);
                d.prices.set(s, num(tokens.get(at++), 0, 99));
                break;
            }
            case "plugs": d.settings[0] = num(tokens.get(at++), 1, 4); break;
            case "power": d.settings[1] = num(tokens.get(at++), 1, 50); break;
            case "limit": d.settings[2] = num(tokens.get(at++), 1, 200); break;
            case "curve": {
                if (d.curves.size() == 4) {
                    throw new Fault(4, word);
                }
                List<int[]> pieces = new ArrayList<>();
                int least = 0;
                int most = 0;
                do {
                    Token fromToken = tokens.get(at++);
                    int from = num(fromToken, least, most);
                    if (pieces.size() == 4) {
                        throw new Fault(4, fromToken);
                    }
                    pieces.add(new int[] {from, num(tokens.get(at++), 1, 50)});
                    least = from + 1;
                    most = 100;
                } while (isDigits(tokens.get(at)));
                d.curves.add(pieces);
                break;
            }
            case "bus": {
                if (d.buses.size() == 4) {
                    throw new Fault(4, word);
                }
                int[] b = new int[6];
                b[0] = num(tokens.get(at++), 0, d.curves.size() - 1);
                b[1] = num(tokens.get(at++), 1, 200);
                b[2] = num(tokens.get(at++), 0, b[1]);
                b[3] = num(tokens.get(at++), 0, b[1]);
                b[4] = num(tokens.get(at++), 0, d.t - 1);
                b[5] = num(tokens.get(at++), b[4] + 1, d.t);
                d.buses.add(b);
                break;
            }
            case "charge": {
                int s = num(tokens.get(at++), 0, d.t - 1);
                List<Integer> set = new ArrayList<>();
                while (isDigits(tokens.get(at))) {
                    int b = num(tokens.get(at), 0, d.buses.size() - 1);
                    if (set.contains(b)) {
                        throw new Fault(3, tokens.get(at));
                    }
                    set.add(b);
                    at++;
                }
                d.plan.set(s, set);
                break;
            }
            default: throw new Fault(1, word);
        }
        if (!tokens.get(at).text.equals(";")) {
            throw new Fault(1, tokens.get(at));
        }
        return at + 1;
    }

    boolean set(int what, int v) {
        if (what >= 0 && what < 3) {
            if (v < 1 || v > MOST[what] || st.settings[what] == v) {
                return false;
            }
            st.settings[what] = v;
            return true;
        }
        if (what < 3 || what - 3 >= st.t || v < 0 || v > 99 || st.prices.get(what - 3) == v) {
            return false;
        }
        st.prices.set(what - 3, v);
        return true;
    }

    int bus(int curve, int capacity, int level, int need, int comes, int goes) {
        boolean can = curve >= 0 && curve < st.curves.size() && capacity >= 1 && capacity <= 200 && level >= 0
            && level <= capacity && need >= 0 && need <= capacity && comes >= 0 && comes < goes && goes <= st.t;
        if (!can) {
            return -1;
        }
        if (st.buses.size() == 4) {
            return -2;
        }
        st.buses.add(new int[] {curve, capacity, level, need, comes, goes});
        return st.buses.size() - 1;
    }

    int drop() {
        if (st.buses.isEmpty()) {
            return -1;
        }
        Integer last = st.buses.size() - 1;
        st.buses.remove(st.buses.size() - 1);
        for (List<Integer> set : st.plan) {
            set.remove(last);
        }
        return st.buses.size();
    }

    private boolean isBus(int b) {
        return b >= 0 && b < st.buses.size();
    }

    private boolean isSlot(int s) {
        return s >= 0 && s < st.t;
    }

    boolean charge(int s, int b, boolean is) {
        if (!isSlot(s) || !isBus(b) || st.plan.get(s).contains(b) == is) {
            return false;
        }
        if (is) {
            st.plan.get(s).add(b);
        } else {
            st.plan.get(s).remove((Integer) b);
        }
        return true;
    }

    int clear() {
        int charges = sum(2);
        st.emptyPlan();
        return charges;
    }

    int count(int what) {
        int[] first = {st.t, st.buses.size(), st.curves.size(), st.settings[0], st.settings[1], st.settings[2], tape.length()};
        if (what >= 0 && what < first.length) {
            return first[what];
        }
        return what >= 10 && what - 10 < st.t ? st.prices.get(what - 10) : -1;
    }

    int told(int b, int what) {
        if (!isBus(b) || what < 0 || what > 5) {
            throw new NoSuchElementException();
        }
        return st.buses.get(b)[what];
    }

    int curve(int c, int k, int what) {
        if (c < 0 || c >= st.curves.size()) {
            return -1;
        }
        List<int[]> pieces = st.curves.get(c);
        if (k == -1 && what == 0) {
            return pieces.size();
        }
        return k < 0 || k >= pieces.size() || what < 0 || what > 1 ? -1 : pieces.get(k)[what];
    }

    private static int takes(State st, int b, int level) {
        int[] bus = st.buses.get(b);
        int rate = 0;
        for (int[] piece : st.curves.get(bus[0])) {
            if (piece[0] * bus[1] / 100.0 <= level + 1e-9) {
                rate = piece[1];
            }
        }
        return Math.min(rate, Math.min(st.settings[1], bus[1] - level));
    }

    int takes(int b, int level) {
        return !isBus(b) || level < 0 || level > st.buses.get(b)[1] ? -1 : takes(st, b, level);
    }

    int slots(int b, int from, int to) {
        if (takes(b, from) == -1 || to > st.buses.get(b)[1]) {
            return -1;
        }
        return from >= to ? 0 : 1 + slots(b, from + takes(b, from), to);
    }

    // ---- the plan

    private static int bits(List<Integer> set) {
        int bits = 0;
        for (int b : set) {
            bits |= 1 << b;
        }
        return bits;
    }

    private static int[] sets(State st) {
        int[] sets = new int[st.t];
        for (int s = 0; s < st.t; s++) {
            sets[s] = bits(st.plan.get(s));
        }
        return sets;
    }

    private static boolean isThere(State st, int b, int s) {
        return s >= st.buses.get(b)[4] && s < st.buses.get(b)[5];
    }

    private static int level(State st, int[] sets, int b, int slot) {
        int level = st.buses.get(b)[2];
        for (int s = 0; s < slot; s++) {
            if ((sets[s] & 1 << b) != 0 && isThere(st, b, s)) {
                level += takes(st, b, level);
            }
        }
        return level;
    }

    private static int used(State st, int[] sets, int s) {
        int all = 0;
        for (int b = 0; b < st.buses.size(); b++) {
            all += level(st, sets, b, s + 1) - level(st, sets, b, s);
        }
        return all;
    }

    private static int lack(State st, int[] sets, int b) {
        return Math.max(0, st.buses.get(b)[3] - level(st, sets, b, st.t));
    }

    private static int sum(State st, int[] sets, int what) {
        int all = 0;
        for (int s = 0; s < st.t; s++) {
            switch (what) {
                case 0: all += used(st, sets, s) * st.prices.get(s); break;
                case 1: all = Math.max(all, used(st, sets, s)); break;
                case 2: all += Integer.bitCount(sets[s]); break;
                default: break;
            }
        }
        for (int b = 0; b < st.buses.size() && what == 3; b++) {
            all += lack(st, sets, b);
        }
        return what < 0 || what > 3 ? -1 : all;
    }

    int plan(int s) {
        return isSlot(s) ? sets(st)[s] : -1;
    }

    int level(int b, int s) {
        return !isBus(b) || s < 0 || s > st.t ? -1 : level(st, sets(st), b, s);
    }

    int used(int s) {
        return isSlot(s) ? used(st, sets(st), s) : -1;
    }

    int lack(int b) {
        return isBus(b) ? lack(st, sets(st), b) : -1;
    }

    int sum(int what) {
        return what == 4 ? wrong(st, sets(st), 4) : sum(st, sets(st), what);
    }

    private static int wrong(State st, int[] sets, int mostKind) {
        List<Integer> all = new ArrayList<>();
        for (int s = 0; s < st.t; s++) {
            for (int b = 0; b < st.buses.size(); b++) {
                if ((sets[s] & 1 << b) != 0 && !isThere(st, b, s)) {
                    all.add(100 + s);
                }
            }
            if (Integer.bitCount(sets[s]) > st.settings[0]) {
                all.add(200 + s);
            }
            if (used(st, sets, s) > st.settings[2]) {
                all.add(300 + s);
            }
        }
        for (int b = 0; b < st.buses.size(); b++) {
            if (lack(st, sets, b) > 0) {
                all.add(400 + b);
            }
        }
        all.removeIf(x -> x / 100 > mostKind);
        return all.isEmpty() ? 0 : all.stream().min(Integer::compare).map(x -> x / 100 + 8 * (x % 100)).get();
    }

    // ---- the best plan

    static int[] best(State st) {
        int[] levels = new int[st.buses.size()];
        for (int b = 0; b < levels.length; b++) {
            levels[b] = st.buses.get(b)[2];
        }
        return tail(st, 0, levels, new HashMap<>()).sets;
    }

    private static Tail tail(State st, int s, int[] levels, Map<List<Integer>, Tail> known) {
        List<Integer> key = new ArrayList<>(List.of(s));
        for (int level : levels) {
            key.add(level);
        }
        Tail have = known.get(key);
        if (have != null) {
            return have;
        }
        Tail best = null;
        if (s == st.t) {
            int lack = 0;
            for (int b = 0; b < levels.length; b++) {
                lack += Math.max(0, st.buses.get(b)[3] - levels[b]);
            }
            best = new Tail(lack, 0, 0, new int[0]);
        }
        for (int set = 0; set < 1 << levels.length && s < st.t; set++) {
            int[] next = levels.clone();
            int used = 0;
            boolean can = Integer.bitCount(set) <= st.settings[0];
            for (int b = 0; b < levels.length; b++) {
                if ((set & 1 << b) != 0) {
                    can &= isThere(st, b, s);
                    next[b] += takes(st, b, levels[b]);
                    used += next[b] - levels[b];
                }
            }
            if (!can || used > st.settings[2]) {
                continue;
            }
            Tail rest = tail(st, s + 1, next, known);
            int[] sets = new int[rest.sets.length + 1];
            sets[0] = set;
            System.arraycopy(rest.sets, 0, sets, 1, rest.sets.length);
            Tail mine = new Tail(rest.lack, rest.cost + used * st.prices.get(s), rest.charges + Integer.bitCount(set), sets);
            if (best == null || mine.isBetterThan(best)) {
                best = mine;
            }
        }
        known.put(key, best);
        return best;
    }

    /** BEST by making every PLAN there is: for few BUSES and SLOTS alone. */
    static int[] bestOfAll(State st) {
        Tail best = null;
        int[] sets = new int[st.t];
        int base = 1 << st.buses.size();
        long plans = 1;
        for (int s = 0; s < st.t; s++) {
            plans *= base;
        }
        for (long i = 0; i < plans; i++) {
            long rest = i;
            for (int s = 0; s < st.t; s++) {
                sets[s] = (int) (rest % base);
                rest /= base;
            }
            if (wrong(st, sets, 3) == 0) {
                Tail mine = new Tail(sum(st, sets, 3), sum(st, sets, 0), sum(st, sets, 2), sets.clone());
                if (best == null || mine.isBetterThan(best)) {
                    best = mine;
                }
            }
        }
        return best.sets;
    }

    private static int costIfReady(State st) {
        int[] sets = best(st);
        return sum(st, sets, 3) > 0 ? -2 : sum(st, sets, 0);
    }

    int best(int what) {
        return sum(st, best(st), what);
    }

    private int adopt(int[] sets) {
        st.emptyPlan();
        for (int s = 0; s < st.t; s++) {
            for (int b = 0; b < st.buses.size(); b++) {
                if ((sets[s] & 1 << b) != 0) {
                    st.plan.get(s).add(b);
                }
            }
        }
        return sum(2);
    }

    int take() {
        return adopt(best(st));
    }

    int late(int b, int by) {
        if (!isBus(b) || by < 0 || by > 8) {
            return -1;
        }
        State other = st.copy();
        other.buses.get(b)[4] += by;
        return costIfReady(other);
    }

    int latest(int b) {
        if (!isBus(b)) {
            return -1;
        }
        for (int by = 8; by >= 0; by--) {
            if (late(b, by) != -2) {
                return by;
            }
        }
        return -2;
    }

    int were(int what, int v) {
        if (what < 0 || what > 2 || v < 1 || v > MOST[what]) {
            return -1;
        }
        State other = st.copy();
        other.settings[what] = v;
        return costIfReady(other);
    }

    int least(int what) {
        for (int v = 1; what >= 0 && what < 3 && v <= MOST[what]; v++) {
            if (were(what, v) != -2) {
                return v;
            }
        }
        return -1;
    }

    int without(int set) {
        if (set < 0 || set >= 1 << st.buses.size()) {
            return -1;
        }
        State other = st.copy();
        other.buses.clear();
        for (int b = 0; b < st.buses.size(); b++) {
            if ((set & 1 << b) != 0) {
                other.buses.add(st.buses.get(b));
            }
        }
        return costIfReady(other);
    }

    // ---- rules

    private int[] byRule(int rule) {
        int[] sets = new int[st.t];
        for (int s = 0; s < st.t; s++) {
            List<int[]> order = new ArrayList<>();
            for (int b = 0; b < st.buses.size(); b++) {
                int[] bus = st.buses.get(b);
                int level = level(st, sets, b, s);
                if (isThere(st, b, s) && level < bus[3]) {
                    int[] ranks = {0, bus[5], level - bus[3], bus[5] - s - slots(b, level, bus[3])};
                    order.add(new int[] {ranks[rule], b});
                }
            }
            order.sort((x, y) -> x[0] != y[0] ? Integer.compare(x[0], y[0]) : Integer.compare(x[1], y[1]));
            for (int[] one : order) {
                int before = sets[s];
                sets[s] |= 1 << one[1];
                if (Integer.bitCount(sets[s]) > st.settings[0] || used(st, sets, s) > st.settings[2]) {
                    sets[s] = before;
                }
            }
        }
        return sets;
    }

    int rule(int rule, int what) {
        if (rule < 0 || rule > 3) {
            return -1;
        }
        if (what >= 10) {
            return what - 10 < st.t ? byRule(rule)[what - 10] : -1;
        }
        return sum(st, byRule(rule), what);
    }

    int takeRule(int rule) {
        return rule < 0 || rule > 3 ? -1 : adopt(byRule(rule));
    }

    int bestRule() {
        int best = 0;
        for (int r = 1; r < 4; r++) {
            int lack = Integer.compare(rule(r, 3), rule(best, 3));
            if (lack < 0 || lack == 0 && rule(r, 0) < rule(best, 0)) {
                best = r;
            }
        }
        return best;
    }
}

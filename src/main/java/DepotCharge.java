import java.util.Arrays;
import java.util.NoSuchElementException;

/**
 * A depot that charges its buses by slots: what is told of it, the plan and what is wrong with it,
 * the plan of least price, and rules by which plans are made. The words in capitals in the comments
 * are those of the document.
 */
public final class DepotCharge {
    public static final int NONE = -1;

    private static final int FULL = -2;
    private static final int LACKING = -2;

    private static final int MOST_SLOTS = 8;
    private static final int MOST_BUSES = 4;
    private static final int MOST_CURVES = 4;
    private static final int MOST_PIECES = 4;
    private static final int MOST_CAPACITY = 200;
    private static final int MOST_PRICE = 99;
    private static final int MOST_RATE = 50;
    private static final int MOST_FROM = 100;
    private static final int MOST_BYTES = 400;
    private static final int MOST_LATE = 8;
    private static final int FIRST_SLOTS = 4;
    private static final int FIRST_PRICE = 10;
    private static final int FED_BYTES = 20;

    private static final int PLUGS = 0;
    private static final int POWER = 1;
    private static final int LIMIT = 2;
    private static final int SETTINGS = 3;
    private static final int[] MOST_OF_SETTING = {4, 50, 200};

    private static final int CURVE = 0;
    private static final int CAPACITY = 1;
    private static final int LEVEL = 2;
    private static final int NEED = 3;
    private static final int COMES = 4;
    private static final int GOES = 5;
    private static final int FACTS = 6;

    private static final int RULES = 4;
    private static final int BY_GOES = 1;
    private static final int BY_LACK = 2;
    private static final int BY_SPARE = 3;

    private static final int COST = 0;
    private static final int FIGURES = 4;
    private static final int WRONG = 4;
    private static final int FIRST_BY_SLOT = 10;

    private static final int ALL_SETS = 1 << MOST_BUSES;
    private static final int[] SIZE_OF_SET = {0, 1, 1, 2, 1, 2, 2, 3, 1, 2, 2, 3, 2, 3, 3, 4};
    private static final int[] FIRST_OF_SET = {0, 0, 1, 0, 2, 0, 1, 0, 3, 0, 1, 0, 2, 0, 1, 0};

    private Depot now;
    private Depot draft;
    private final Tape tape;
    private final Reader reader;
    private final Ledger ledger;
    private final Planner planner;
    private final Ruler ruler;
    private final int[] bestSets;
    private boolean bestIsKnown;

    public DepotCharge() {
        now = new Depot();
        draft = new Depot();
        tape = new Tape();
        reader = new Reader(tape);
        ledger = new Ledger();
        planner = new Planner(now);
        ruler = new Ruler();
        bestSets = new int[MOST_SLOTS];
        bestIsKnown = false;
    }

    // ---- what is told

    public int feed(int a, int b, int c, int d, int e) {
        if (tape.length + FED_BYTES > MOST_BYTES) {
            return NONE;
        }
        tape.append(a);
        tape.append(b);
        tape.append(c);
        tape.append(d);
        tape.append(e);
        return tape.length;
    }

    public boolean end(int n) {
        if (n < 0 || n > tape.length) {
            return false;
        }
        tape.length = n;
        return true;
    }

    public int tell() {
        draft.copyFrom(now);
        int statements = reader.readInto(draft);
        tape.length = 0;
        if (statements == NONE) {
            return NONE;
        }
        Depot before = now;
        now = draft;
        draft = before;
        bestIsKnown = false;
        return statements;
    }

    public int fault() {
        return reader.fault;
    }

    public boolean set(int what, int v) {
        boolean changed = what < SETTINGS ? now.changeSetting(what, v) : now.changePrice(what - SETTINGS, v);
        if (changed) {
            bestIsKnown = false;
        }
        return changed;
    }

    public int bus(int curve, int capacity, int level, int need, int comes, int goes) {
        boolean canBe = now.offer(CURVE, curve) && now.offer(CAPACITY, capacity) && now.offer(LEVEL, level)
            && now.offer(NEED, need) && now.offer(COMES, comes) && now.offer(GOES, goes);
        if (!canBe) {
            return NONE;
        }
        if (now.busCount >= MOST_BUSES) {
            return FULL;
        }
        now.addOffered();
        bestIsKnown = false;
        return now.busCount - 1;
    }

    public int drop() {
        if (now.busCount == 0) {
            return NONE;
        }
        now.removeLast();
        bestIsKnown = false;
        return now.busCount;
    }

    public boolean charge(int slot, int bus, boolean is) {
        if (!now.hasSlot(slot) || !now.hasBus(bus)) {
            return false;
        }
        int bit = 1 << bus;
        if (((now.sets[slot] & bit) != 0) == is) {
            return false;
        }
        now.sets[slot] ^= bit;
        return true;
    }

    public int clear() {
        ledger.weigh(now, now.sets);
        Arrays.fill(now.sets, 0);
        return ledger.charges;
    }

    public int count(int what) {
        switch (what) {
            case 0: return now.slotCount;
            case 1: return now.busCount;
            case 2: return now.curveCount;
            case 3: return now.settings[PLUGS];
            case 4: return now.settings[POWER];
            case 5: return now.settings[LIMIT];
            case 6: return tape.length;
            default: break;
        }
        if (what < FIRST_BY_SLOT || !now.hasSlot(what - FIRST_BY_SLOT)) {
            return NONE;
        }
        return now.prices[what - FIRST_BY_SLOT];
    }

    public int told(int bus, int what) throws NoSuchElementException {
        if (!now.hasBus(bus) || what < 0 || what >= FACTS) {
            throw new NoSuchElementException("no such bus, or nothing such is told of it");
        }
        return now.fact(bus, what);
    }

    public int curve(int curve, int k, int what) {
        if (!now.hasCurve(curve)) {
            return NONE;
        }
        if (k == NONE) {
            return what == 0 ? now.pieceCounts[curve] : NONE;
        }
        if (k < 0 || k >= now.pieceCounts[curve]) {
            return NONE;
        }
        switch (what) {
            case 0: return now.froms[curve * MOST_PIECES + k];
            case 1: return now.rates[curve * MOST_PIECES + k];
            default: return NONE;
        }
    }

    public int takes(int bus, int level) {
        if (!now.hasLevel(bus, level)) {
            return NONE;
        }
        return now.gain(bus, level, now.settings[POWER]);
    }

    public int slots(int bus, int from, int to) {
        if (!now.hasLevel(bus, from) || to > now.fact(bus, CAPACITY)) {
            return NONE;
        }
        return now.fewestCharges(bus, from, to);
    }

    // ---- the plan

    public int plan(int slot) {
        return now.hasSlot(slot) ? now.sets[slot] : NONE;
    }

    public int level(int bus, int slot) {
        if (!now.hasBus(bus) || slot < 0 || slot > now.slotCount) {
            return NONE;
        }
        ledger.weigh(now, now.sets);
        return ledger.levelAt(bus, slot);
    }

    public int used(int slot) {
        if (!now.hasSlot(slot)) {
            return NONE;
        }
        ledger.weigh(now, now.sets);
        return ledger.usedBySlot[slot];
    }

    public int sum(int what) {
        ledger.weigh(now, now.sets);
        return what == WRONG ? ledger.wrongness(now, now.sets) : ledger.figure(what);
    }

    public int lack(int bus) {
        if (!now.hasBus(bus)) {
            return NONE;
        }
        ledger.weigh(now, now.sets);
        return ledger.lackOf(now, bus);
    }

    // ---- the best plan

    public int best(int what) {
        if (what < 0 || what >= FIGURES) {
            return NONE;
        }
        findBest();
        ledger.weigh(now, bestSets);
        return ledger.figure(what);
    }

    public int take() {
        findBest();
        return adopt(bestSets);
    }

    public int late(int bus, int by) {
        if (!now.hasBus(bus) || by < 0 || by > MOST_LATE) {
            return NONE;
        }
        return costIfLate(bus, by);
    }

    public int latest(int bus) {
        if (!now.hasBus(bus)) {
            return NONE;
        }
        // A PLAN for a later coming serves an earlier one too, so the first LACK ends the search.
        for (int by = 0; by <= MOST_LATE; by++) {
            if (costIfLate(bus, by) == LACKING) {
                return by == 0 ? LACKING : by - 1;
            }
        }
        return MOST_LATE;
    }

    public int were(int what, int v) {
        if (!Depot.settingCanBe(what, v)) {
            return NONE;
        }
        return costIfSet(what, v);
    }

    public int least(int what) {
        switch (what) {
            case PLUGS: return firstReady(PLUGS, MOST_OF_SETTING[PLUGS]);
            case POWER: return firstReady(POWER, now.topRate());
            case LIMIT: return leastLimit();
            default: return NONE;
        }
    }

    public int without(int set) {
        if (set < 0 || set >= 1 << now.busCount) {
            return NONE;
        }
        planner.lookAt(now);
        planner.wanted = set;
        return planner.costIfReady();
    }

    // ---- rules (0 to 3)

    public int rule(int rule, int what) {
        if (!isRule(rule)) {
            return NONE;
        }
        ruler.make(now, rule);
        if (what >= FIRST_BY_SLOT) {
            return now.hasSlot(what - FIRST_BY_SLOT) ? ruler.sets[what - FIRST_BY_SLOT] : NONE;
        }
        ledger.weigh(now, ruler.sets);
        return ledger.figure(what);
    }

    public int takeRule(int rule) {
        if (!isRule(rule)) {
            return NONE;
        }
        ruler.make(now, rule);
        return adopt(ruler.sets);
    }

    public int bestRule() {
        int bestOne = 0;
        int leastLack = 0;
        int leastCost = 0;
        for (int rule = 0; rule < RULES; rule++) {
            ruler.make(now, rule);
            ledger.weigh(now, ruler.sets);
            boolean better = ledger.allLack < leastLack
                || ledger.allLack == leastLack && ledger.cost < leastCost;
            if (rule == 0 || better) {
                bestOne = rule;
                leastLack = ledger.allLack;
                leastCost = ledger.cost;
            }
        }
        return bestOne;
    }

    private static boolean isRule(int rule) {
        return rule >= 0 && rule < RULES;
    }

    private void findBest() {
        if (bestIsKnown) {
            return;
        }
        planner.lookAt(now);
        planner.findPlan(bestSets);
        bestIsKnown = true;
    }

    private int adopt(int[] sets) {
        for (int s = 0; s < MOST_SLOTS; s++) {
            now.sets[s] = sets[s];
        }
        ledger.weigh(now, now.sets);
        return ledger.charges;
    }

    private int costIfLate(int bus, int by) {
        planner.lookAt(now);
        planner.comes[bus] += by;
        return planner.costIfReady();
    }

    private int costIfSet(int what, int v) {
        planner.lookAt(now);
        planner.settings[what] = v;
        return planner.costIfReady();
    }

    // More POWER can be worse (USED goes above LIMIT), so no step is left out.
    private int firstReady(int what, int most) {
        for (int v = 1; v <= most; v++) {
            if (costIfSet(what, v) != LACKING) {
                return v;
            }
        }
        return NONE;
    }

    // What a LIMIT lets pass a greater one does too, so halving finds the least.
    private int leastLimit() {
        int high = MOST_OF_SETTING[LIMIT];
        if (costIfSet(LIMIT, high) == LACKING) {
            return NONE;
        }
        int low = 1;
        for (int i = 0; i < MOST_OF_SETTING[LIMIT] && low < high; i++) {
            int middle = (low + high) / 2;
            if (costIfSet(LIMIT, middle) == LACKING) {
                low = middle + 1;
            } else {
                high = middle;
            }
        }
        return high;
    }

    /** All that is told: SLOTS, settings, CURVES, BUSES, and the PLAN. */
    private static final class Depot {
        int slotCount;
        int curveCount;
        int busCount;
        final int[] settings = new int[SETTINGS];
        final int[] prices = new int[MOST_SLOTS];
        final int[] sets = new int[MOST_SLOTS];
        final int[] pieceCounts = new int[MOST_CURVES];
        final int[] froms = new int[MOST_CURVES * MOST_PIECES];
        final int[] rates = new int[MOST_CURVES * MOST_PIECES];
        final int[] facts = new int[MOST_BUSES * FACTS];
        // The numbers of a BUS that is not yet one: a later number is bound by earlier ones.
        final int[] offered = new int[FACTS];

        Depot() {
            slotCount = FIRST_SLOTS;
            curveCount = 0;
            busCount = 0;
            settings[PLUGS] = 1;
            settings[POWER] = 20;
            settings[LIMIT] = 40;
            Arrays.fill(prices, FIRST_PRICE);
        }

        void copyFrom(Depot other) {
            slotCount = other.slotCount;
            curveCount = other.curveCount;
            busCount = other.busCount;
            System.arraycopy(other.settings, 0, settings, 0, SETTINGS);
            System.arraycopy(other.prices, 0, prices, 0, MOST_SLOTS);
            System.arraycopy(other.sets, 0, sets, 0, MOST_SLOTS);
            System.arraycopy(other.pieceCounts, 0, pieceCounts, 0, MOST_CURVES);
            System.arraycopy(other.froms, 0, froms, 0, MOST_CURVES * MOST_PIECES);
            System.arraycopy(other.rates, 0, rates, 0, MOST_CURVES * MOST_PIECES);
            System.arraycopy(other.facts, 0, facts, 0, MOST_BUSES * FACTS);
        }

        void beginAnew(int slotsNow) {
            slotCount = slotsNow;
            busCount = 0;
            Arrays.fill(prices, FIRST_PRICE);
            Arrays.fill(sets, 0);
        }

        boolean hasSlot(int slot) {
            return slot >= 0 && slot < slotCount;
        }

        boolean hasBus(int bus) {
            return bus >= 0 && bus < busCount;
        }

        boolean hasCurve(int curve) {
            return curve >= 0 && curve < curveCount;
        }

        boolean hasLevel(int bus, int level) {
            return hasBus(bus) && level >= 0 && level <= fact(bus, CAPACITY);
        }

        int fact(int bus, int what) {
            return facts[bus * FACTS + what];
        }

        boolean isThere(int bus, int slot) {
            return slot >= fact(bus, COMES) && slot < fact(bus, GOES);
        }

        static boolean settingCanBe(int what, int v) {
            return what >= 0 && what < SETTINGS && v >= 1 && v <= MOST_OF_SETTING[what];
        }

        boolean changeSetting(int what, int v) {
            if (!settingCanBe(what, v) || settings[what] == v) {
                return false;
            }
            settings[what] = v;
            return true;
        }

        boolean changePrice(int slot, int v) {
            if (!hasSlot(slot) || v < 0 || v > MOST_PRICE || prices[slot] == v) {
                return false;
            }
            prices[slot] = v;
            return true;
        }

        /** Takes a number for the BUS that is to come, if it can be, in the order of the numbers. */
        boolean offer(int what, int v) {
            if (v < leastOffer(what) || v > mostOffer(what)) {
                return false;
            }
            offered[what] = v;
            return true;
        }

        int leastOffer(int what) {
            switch (what) {
                case CAPACITY: return 1;
                case GOES: return offered[COMES] + 1;
                default: return 0;
            }
        }

        int mostOffer(int what) {
            switch (what) {
                case CURVE: return curveCount - 1;
                case CAPACITY: return MOST_CAPACITY;
                case LEVEL:
                case NEED: return offered[CAPACITY];
                // No GOES could stand behind a COMES of T.
                case COMES: return slotCount - 1;
                case GOES: return slotCount;
                default: return NONE;
            }
        }

        void addOffered() {
            if (busCount < MOST_BUSES) {
                System.arraycopy(offered, 0, facts, busCount * FACTS, FACTS);
                busCount++;
            }
        }

        void removeLast() {
            if (busCount > 0) {
                busCount--;
                for (int s = 0; s < MOST_SLOTS; s++) {
                    sets[s] &= ~(1 << busCount);
                }
            }
        }

        void addPiece(int curve, int from, int rate) {
            if (curve < MOST_CURVES && pieceCounts[curve] < MOST_PIECES) {
                int place = curve * MOST_PIECES + pieceCounts[curve];
                froms[place] = from;
                rates[place] = rate;
                pieceCounts[curve]++;
            }
        }

        /** TAKES, were POWER this one. */
        int gain(int bus, int level, int power) {
            int capacity = facts[bus * FACTS + CAPACITY];
            int curve = facts[bus * FACTS + CURVE];
            int first = curve * MOST_PIECES;
            int piece = Math.max(0, pieceCounts[curve] - 1);
            while (piece > 0 && froms[first + piece] * capacity > level * 100) {
                piece--;
            }
            return Math.min(Math.min(power, capacity - level), rates[first + piece]);
        }

        int fewestCharges(int bus, int from, int to) {
            int level = from;
            int charges = 0;
            while (level < to && charges < MOST_CAPACITY) {
                level += gain(bus, level, settings[POWER]);
                charges++;
            }
            return charges;
        }

        /** Greater POWER than this changes nothing. */
        int topRate() {
            int top = 1;
            for (int c = 0; c < curveCount; c++) {
                for (int k = 0; k < pieceCounts[c]; k++) {
                    top = Math.max(top, rates[c * MOST_PIECES + k]);
                }
            }
            return top;
        }
    }

    /** The bytes that were fed, and the TOKEN that is looked at. */
    private static final class Tape {
        static final int END = 0;
        static final int WORD = 1;
        static final int NUMBER = 2;
        static final int SIGN = 3;
        private static final int MOST_DIGITS = 4;

        final byte[] bytes = new byte[MOST_BYTES];
        int length = 0;
        int kind = END;
        int place = 0;
        int number = NONE;
        private int behind = 0;

        void append(int four) {
            for (int shift = 24; shift >= 0 && length < MOST_BYTES; shift -= 8) {
                bytes[length] = (byte) (four >>> shift);
                length++;
            }
        }

        void rewind() {
            behind = 0;
            step();
        }

        void step() {
            while (behind < length && (bytes[behind] == 32 || bytes[behind] == 10)) {
                behind++;
            }
            place = behind;
            if (behind >= length) {
                kind = END;
            } else if (isDigit(behind)) {
                readNumber();
            } else if (isLetter(behind)) {
                readWord();
            } else {
                kind = SIGN;
                behind++;
            }
        }

        private boolean isDigit(int at) {
            return bytes[at] >= '0' && bytes[at] <= '9';
        }

        private boolean isLetter(int at) {
            return bytes[at] >= 'a' && bytes[at] <= 'z';
        }

        private void readNumber() {
            kind = NUMBER;
            number = 0;
            while (behind < length && isDigit(behind)) {
                if (behind - place < MOST_DIGITS) {
                    number = number * 10 + bytes[behind] - '0';
                }
                behind++;
            }
            if (behind - place > MOST_DIGITS) {
                number = NONE;
            }
        }

        private void readWord() {
            kind = WORD;
            while (behind < length && isLetter(behind)) {
                behind++;
            }
        }

        boolean isWord(String word) {
            if (kind != WORD || behind - place != word.length()) {
                return false;
            }
            for (int i = 0; i < word.length() && place + i < length; i++) {
                if (bytes[place + i] != word.charAt(i)) {
                    return false;
                }
            }
            return true;
        }

        boolean isSemicolon() {
            return kind == SIGN && place < length && bytes[place] == ';';
        }
    }

    /** Reads the TAPE's STATEMENTS into a depot, up to the first FAULT. */
    private static final class Reader {
        private static final int CANT_STAND = 1;
        private static final int CANT_BE = 2;
        private static final int STANDS_ALREADY = 3;
        private static final int ONE_TOO_MANY = 4;
        private static final int FAULT_SPAN = 8;

        private final Tape tape;
        int fault = 0;

        Reader(Tape tape) {
            this.tape = tape;
        }

        int readInto(Depot depot) {
            fault = 0;
            int statements = 0;
            tape.rewind();
            while (statements < MOST_BYTES && fault == 0 && tape.kind != Tape.END) {
                readStatement(depot);
                statements++;
            }
            return fault == 0 ? statements : NONE;
        }

        private void blame(int kind) {
            if (fault == 0) {
                fault = kind + FAULT_SPAN * tape.place;
            }
        }

        private void readStatement(Depot depot) {
            if (tape.isWord("slots")) {
                readSlots(depot);
            } else if (tape.isWord("price")) {
                readPrice(depot);
            } else if (tape.isWord("plugs")) {
                readSetting(depot, PLUGS);
            } else if (tape.isWord("power")) {
                readSetting(depot, POWER);
            } else if (tape.isWord("limit")) {
                readSetting(depot, LIMIT);
            } else if (tape.isWord("curve")) {
                readCurve(depot);
            } else if (tape.isWord("bus")) {
                readBus(depot);
            } else if (tape.isWord("charge")) {
                readCharge(depot);
            } else {
                blame(CANT_STAND);
            }
            readSemicolon();
        }

        private void readSemicolon() {
            if (fault != 0) {
                return;
            }
            if (tape.isSemicolon()) {
                tape.step();
            } else {
                blame(CANT_STAND);
            }
        }

        private boolean numberIsWithin(int low, int high) {
            if (tape.kind != Tape.NUMBER || tape.number == NONE) {
                blame(CANT_STAND);
            } else if (tape.number < low || tape.number > high) {
                blame(CANT_BE);
            }
            return fault == 0;
        }

        /** The NUMBER that stands there, behind which the TAPE goes on; NONE: a FAULT. */
        private int readNumber(int low, int high) {
            if (!numberIsWithin(low, high)) {
                return NONE;
            }
            int number = tape.number;
            tape.step();
            return number;
        }

        private void readSlots(Depot depot) {
            tape.step();
            int slotsNow = readNumber(1, MOST_SLOTS);
            if (slotsNow != NONE) {
                depot.beginAnew(slotsNow);
            }
        }

        private void readPrice(Depot depot) {
            tape.step();
            int slot = readNumber(0, depot.slotCount - 1);
            if (slot == NONE) {
                return;
            }
            int price = readNumber(0, MOST_PRICE);
            if (price != NONE) {
                depot.changePrice(slot, price);
            }
        }

        private void readSetting(Depot depot, int what) {
            tape.step();
            int v = readNumber(1, MOST_OF_SETTING[what]);
            if (v != NONE) {
                depot.changeSetting(what, v);
            }
        }

        private void readCurve(Depot depot) {
            if (depot.curveCount >= MOST_CURVES) {
                blame(ONE_TOO_MANY);
                return;
            }
            tape.step();
            int curve = depot.curveCount;
            depot.pieceCounts[curve] = 0;
            int leastFrom = 0;
            int mostFrom = 0;
            // The round behind the last PIECE that may be finds the FAULT.
            for (int k = 0; k <= MOST_PIECES && (k == 0 || tape.kind == Tape.NUMBER); k++) {
                if (!numberIsWithin(leastFrom, mostFrom)) {
                    return;
                }
                if (k == MOST_PIECES) {
                    blame(ONE_TOO_MANY);
                    return;
                }
                int from = tape.number;
                tape.step();
                int rate = readNumber(1, MOST_RATE);
                if (rate == NONE) {
                    return;
                }
                depot.addPiece(curve, from, rate);
                leastFrom = from + 1;
                mostFrom = MOST_FROM;
            }
            depot.curveCount++;
        }

        private void readBus(Depot depot) {
            if (depot.busCount >= MOST_BUSES) {
                blame(ONE_TOO_MANY);
                return;
            }
            tape.step();
            for (int what = 0; what < FACTS; what++) {
                int v = readNumber(depot.leastOffer(what), depot.mostOffer(what));
                if (v == NONE) {
                    return;
                }
                depot.offer(what, v);
            }
            depot.addOffered();
        }

        private void readCharge(Depot depot) {
            tape.step();
            int slot = readNumber(0, depot.slotCount - 1);
            if (slot == NONE) {
                return;
            }
            int set = 0;
            // A BUS stands there once alone, so the round behind MOST_BUSES finds a FAULT.
            for (int i = 0; i <= MOST_BUSES && tape.kind == Tape.NUMBER; i++) {
                if (!numberIsWithin(0, depot.busCount - 1)) {
                    return;
                }
                int bit = 1 << tape.number;
                if ((set & bit) != 0) {
                    blame(STANDS_ALREADY);
                    return;
                }
                set |= bit;
                tape.step();
            }
            depot.sets[slot] = set;
        }
    }

    /** What a PLAN comes to in a depot. */
    private static final class Ledger {
        private static final int NOT_THERE = 1;
        private static final int MANY_FOR_PLUGS = 2;
        private static final int ABOVE_LIMIT = 3;
        private static final int HAS_LACK = 4;
        private static final int WRONG_SPAN = 8;
        private static final int MOMENTS = MOST_SLOTS + 1;

        private final int[] levels = new int[MOST_BUSES * MOMENTS];
        final int[] usedBySlot = new int[MOST_SLOTS];
        int cost = 0;
        int charges = 0;
        int allLack = 0;
        private int peak = 0;

        void weigh(Depot depot, int[] sets) {
            cost = 0;
            peak = 0;
            charges = 0;
            allLack = 0;
            for (int b = 0; b < depot.busCount; b++) {
                levels[b * MOMENTS] = depot.fact(b, LEVEL);
            }
            for (int s = 0; s < depot.slotCount; s++) {
                usedBySlot[s] = chargeSlot(depot, s, sets[s]);
                cost += usedBySlot[s] * depot.prices[s];
                peak = Math.max(peak, usedBySlot[s]);
                charges += SIZE_OF_SET[sets[s]];
            }
            for (int b = 0; b < depot.busCount; b++) {
                allLack += lackOf(depot, b);
            }
        }

        private int chargeSlot(Depot depot, int slot, int set) {
            int all = 0;
            for (int b = 0; b < depot.busCount; b++) {
                int level = levelAt(b, slot);
                int gain = 0;
                if ((set >> b & 1) == 1 && depot.isThere(b, slot)) {
                    gain = depot.gain(b, level, depot.settings[POWER]);
                }
                levels[b * MOMENTS + slot + 1] = level + gain;
                all += gain;
            }
            return all;
        }

        int levelAt(int bus, int slot) {
            return levels[bus * MOMENTS + slot];
        }

        int lackOf(Depot depot, int bus) {
            return Math.max(0, depot.fact(bus, NEED) - levelAt(bus, depot.slotCount));
        }

        int figure(int what) {
            switch (what) {
                case COST: return cost;
                case 1: return peak;
                case 2: return charges;
                case 3: return allLack;
                default: return NONE;
            }
        }

        /** What is WRONG with the PLAN that was weighed last. */
        int wrongness(Depot depot, int[] sets) {
            for (int kind = NOT_THERE; kind <= ABOVE_LIMIT; kind++) {
                for (int s = 0; s < depot.slotCount; s++) {
                    if (slotIsWrong(depot, s, sets[s], kind)) {
                        return kind + WRONG_SPAN * s;
                    }
                }
            }
            for (int b = 0; b < depot.busCount; b++) {
                if (lackOf(depot, b) > 0) {
                    return HAS_LACK + WRONG_SPAN * b;
                }
            }
            return 0;
        }

        private boolean slotIsWrong(Depot depot, int slot, int set, int kind) {
            switch (kind) {
                case NOT_THERE: return holdsAbsent(depot, slot, set);
                case MANY_FOR_PLUGS: return SIZE_OF_SET[set] > depot.settings[PLUGS];
                default: return usedBySlot[slot] > depot.settings[LIMIT];
            }
        }

        private static boolean holdsAbsent(Depot depot, int slot, int set) {
            for (int b = 0; b < depot.busCount; b++) {
                if ((set >> b & 1) == 1 && !depot.isThere(b, slot)) {
                    return true;
                }
            }
            return false;
        }
    }

    /**
     * Finds BEST. How often a BUS has been charged tells its LEVEL, so a state is a count for each
     * BUS; states are weighed from the last SLOT back to the first, each SLOT over the one behind it.
     * BEST never charges a BUS that has its NEED: without its last charge it would be better.
     */
    private static final class Planner {
        private static final int COUNTS = MOST_SLOTS + 1;
        private static final int STATES = COUNTS * COUNTS * COUNTS * COUNTS;
        // CHARGES are 32 at most, COST 99 times 800 (no more can be taken), so neither reaches the next one's place.
        private static final int CHARGE_SPAN = 64;
        private static final int COST_SPAN = 100000;
        private static final long NO_PLAN = 1L << 50;

        // What a caller may change behind lookAt().
        final int[] settings = new int[SETTINGS];
        final int[] comes = new int[MOST_BUSES];
        int wanted = 0;

        private Depot depot;
        private final int[] stay = new int[MOST_BUSES];
        private final int[] most = new int[MOST_BUSES];
        private final int[] gains = new int[MOST_BUSES * COUNTS];
        private final int[] lacks = new int[MOST_BUSES * COUNTS];
        private final int[] shift = new int[ALL_SETS];
        // LACK, COST and CHARGES from a state on, as one number; the sets, four bits a SLOT.
        private final long[] worth = new long[STATES];
        private final int[] choices = new int[STATES];
        // The state that is looked at, and the bounds between which the states of a SLOT lie.
        private final int[] at = new int[MOST_BUSES];
        private final int[] low = new int[MOST_BUSES];
        private final int[] high = new int[MOST_BUSES];
        private final int[] due = new int[MOST_BUSES];
        private int state = 0;
        private int charged = 0;
        private int there = 0;
        private final int[] usedBySet = new int[ALL_SETS];

        Planner(Depot depot) {
            this.depot = depot;
        }

        void lookAt(Depot other) {
            depot = other;
            wanted = ALL_SETS - 1;
            System.arraycopy(other.settings, 0, settings, 0, SETTINGS);
            for (int b = 0; b < MOST_BUSES; b++) {
                comes[b] = other.fact(b, COMES);
            }
        }

        /** COST of BEST; LACKING: it has LACK. */
        int costIfReady() {
            traceAll();
            if (!mayBeReady() || !weighStates(true)) {
                return LACKING;
            }
            return (int) (worth[0] / CHARGE_SPAN % COST_SPAN);
        }

        void findPlan(int[] sets) {
            traceAll();
            if (!mayBeReady() || !weighStates(true)) {
                weighStates(false);
            }
            int place = 0;
            for (int s = 0; s < MOST_SLOTS; s++) {
                sets[s] = s < depot.slotCount ? choices[place] >>> 4 * s & ALL_SETS - 1 : 0;
                place += shift[sets[s]];
            }
        }

        private void traceAll() {
            int stride = 1;
            for (int b = 0; b < MOST_BUSES; b++) {
                stay[b] = 0;
                most[b] = 0;
                lacks[b * COUNTS] = 0;
                if (b < depot.busCount && (wanted >> b & 1) == 1) {
                    trace(b);
                }
                shift[1 << b] = stride;
                stride *= most[b] + 1;
            }
            for (int set = 1; set < ALL_SETS; set++) {
                int first = set & -set;
                shift[set] = shift[set ^ first] + shift[first];
            }
        }

        /** What a BUS takes charge by charge, till it has NEED or has no SLOT more. */
        private void trace(int bus) {
            int need = depot.fact(bus, NEED);
            int level = depot.fact(bus, LEVEL);
            stay[bus] = Math.max(0, depot.fact(bus, GOES) - comes[bus]);
            int charges = 0;
            while (charges < stay[bus] && charges < MOST_SLOTS && level < need) {
                int gain = depot.gain(bus, level, settings[POWER]);
                gains[bus * COUNTS + charges] = gain;
                lacks[bus * COUNTS + charges] = need - level;
                level += gain;
                charges++;
            }
            most[bus] = charges;
            lacks[bus * COUNTS + charges] = Math.max(0, need - level);
        }

        /** false: a BUS by itself, or PLUGS or LIMIT over all SLOTS, lead to LACK, whatever the PLAN. */
        private boolean mayBeReady() {
            int charges = 0;
            int taken = 0;
            for (int b = 0; b < MOST_BUSES; b++) {
                if (lacks[b * COUNTS + most[b]] > 0) {
                    return false;
                }
                charges += most[b];
                for (int k = 0; k < most[b]; k++) {
                    taken += gains[b * COUNTS + k];
                }
            }
            return charges <= settings[PLUGS] * depot.slotCount && taken <= settings[LIMIT] * depot.slotCount;
        }

        /** Weighs all states, or (ready) those alone from which no BUS need have LACK; false: no PLAN. */
        private boolean weighStates(boolean ready) {
            int last = depot.slotCount;
            int states = spread(last, ready);
            for (int i = 0; i < states; i++) {
                worth[state] = (long) lackHere() * COST_SPAN * CHARGE_SPAN;
                nextState();
            }
            for (int s = last - 1; s >= 0; s--) {
                states = spread(s, ready);
                for (int i = 0; i < states; i++) {
                    // With more charges than PLUGS so far it is never come to.
                    if (charged <= settings[PLUGS] * s) {
                        settle(s);
                    }
                    nextState();
                }
            }
            return worth[0] < NO_PLAN;
        }

        /** Goes to the first state that can be at the beginning of a SLOT; how many there are. */
        private int spread(int slot, boolean ready) {
            int states = 1;
            state = 0;
            charged = 0;
            there = 0;
            for (int b = 0; b < MOST_BUSES; b++) {
                int before = Math.min(stay[b], Math.max(0, slot - comes[b]));
                int behind = stay[b] - before;
                low[b] = ready ? Math.max(0, most[b] - behind) : 0;
                high[b] = Math.min(most[b], before);
                boolean isThere = slot >= comes[b] && behind > 0;
                there |= isThere ? 1 << b : 0;
                due[b] = ready && isThere ? Math.max(0, most[b] - behind + 1) : 0;
                at[b] = low[b];
                charged += at[b];
                state += at[b] * shift[1 << b];
                states *= Math.max(0, high[b] - low[b] + 1);
            }
            return states;
        }

        private void nextState() {
            for (int b = 0; b < MOST_BUSES; b++) {
                if (at[b] < high[b]) {
                    at[b]++;
                    charged++;
                    state += shift[1 << b];
                    return;
                }
                state -= (at[b] - low[b]) * shift[1 << b];
                charged -= at[b] - low[b];
                at[b] = low[b];
            }
        }

        private int lackHere() {
            int all = 0;
            for (int b = 0; b < MOST_BUSES; b++) {
                all += lacks[b * COUNTS + at[b]];
            }
            return all;
        }

        /** The worth of a state and its set in a SLOT: of like ones the least set. */
        private void settle(int slot) {
            int can = 0;
            int must = 0;
            for (int b = 0; b < MOST_BUSES; b++) {
                if (at[b] < most[b]) {
                    can |= 1 << b & there;
                }
                if (at[b] < due[b]) {
                    must |= 1 << b;
                }
            }
            long price = (long) depot.prices[slot] * CHARGE_SPAN;
            long least = must == 0 ? worth[state] : NO_PLAN;
            int chosen = 0;
            for (int set = 1; set <= can; set++) {
                if ((set & ~can) != 0 || SIZE_OF_SET[set] > settings[PLUGS]) {
                    continue;
                }
                int bus = FIRST_OF_SET[set];
                int all = usedBySet[set & set - 1] + gains[bus * COUNTS + at[bus]];
                usedBySet[set] = all;
                if (all > settings[LIMIT] || (set & must) != must) {
                    continue;
                }
                long here = worth[state + shift[set]] + all * price + SIZE_OF_SET[set];
                if (here < least) {
                    least = here;
                    chosen = set;
                }
            }
            worth[state] = least;
            choices[state] = choices[state] & ~(ALL_SETS - 1 << 4 * slot) | chosen << 4 * slot;
        }
    }

    /** Makes a PLAN by a RULE. */
    private static final class Ruler {
        final int[] sets = new int[MOST_SLOTS];
        private final int[] levels = new int[MOST_BUSES];
        private final int[] ranks = new int[MOST_BUSES];

        void make(Depot depot, int rule) {
            for (int b = 0; b < depot.busCount; b++) {
                levels[b] = depot.fact(b, LEVEL);
            }
            for (int s = 0; s < MOST_SLOTS; s++) {
                sets[s] = s < depot.slotCount ? chargeSlot(depot, rule, s) : 0;
            }
        }

        private int chargeSlot(Depot depot, int rule, int slot) {
            int waiting = 0;
            for (int b = 0; b < depot.busCount; b++) {
                if (depot.isThere(b, slot) && levels[b] < depot.fact(b, NEED)) {
                    waiting |= 1 << b;
                    ranks[b] = rankOf(depot, rule, b, slot);
                }
            }
            int set = 0;
            int all = 0;
            for (int i = 0; i < MOST_BUSES && waiting != 0 && SIZE_OF_SET[set] < depot.settings[PLUGS]; i++) {
                int bus = firstOf(waiting);
                waiting &= ~(1 << bus);
                int gain = depot.gain(bus, levels[bus], depot.settings[POWER]);
                if (all + gain <= depot.settings[LIMIT]) {
                    set |= 1 << bus;
                    all += gain;
                    levels[bus] += gain;
                }
            }
            return set;
        }

        private int rankOf(Depot depot, int rule, int bus, int slot) {
            int need = depot.fact(bus, NEED);
            switch (rule) {
                case BY_GOES: return depot.fact(bus, GOES);
                case BY_LACK: return levels[bus] - need;
                case BY_SPARE: return depot.fact(bus, GOES) - slot - depot.fewestCharges(bus, levels[bus], need);
                default: return bus;
            }
        }

        private int firstOf(int waiting) {
            int first = FIRST_OF_SET[waiting];
            for (int b = first + 1; b < MOST_BUSES; b++) {
                if ((waiting >> b & 1) == 1 && ranks[b] < ranks[first]) {
                    first = b;
                }
            }
            return first;
        }
    }
}

import java.util.Arrays;
import java.util.List;
import java.util.NoSuchElementException;

/** Promises 1 to 30: each sentence that names an edge, and each refused call, has a test of its own. */
public final class EdgesOfPromisesTest {
    private static final Checks C = new Checks();
    private static final int MIN = Integer.MIN_VALUE;
    private static final int MAX = Integer.MAX_VALUE;
    // Numbers that come back to 0 to 7 where only the lowest bits are looked at.
    private static final int[] FAR = {MIN, MIN + 1, -256, -32, -8, -4, 32, 256, 1 << 16, 1 << 30, MAX};
    private static final String TWO = "plugs 2; curve 0 20 50 10; curve 0 5;"
        + "bus 0 100 0 45 0 4; bus 1 40 10 20 1 3; charge 0 0; charge 1 0 1; price 2 3;";
    private static final String FOUR = "slots 8; plugs 2; curve 0 10;"
        + "bus 0 90 0 20 0 8; bus 0 90 0 20 1 7; bus 0 90 0 20 2 6; bus 0 90 0 20 3 5;";

    public static void main(String[] args) {
        newObject();
        feedTo400();
        feedHighestFirst();
        end();
        tellOfNothing();
        tellEmptiesTheTape();
        tellWithFault();
        tellWithFaultKeepsFullCurves();
        faultOfTheLatest();
        set();
        busTooSmallOrLarge();
        busFull();
        drop();
        charge();
        clear();
        count();
        told();
        curve();
        takes();
        slots();
        plan();
        level();
        used();
        sum();
        lack();
        best();
        take();
        late();
        lateNotThereInAny();
        latest();
        were();
        least();
        leastNone();
        leastLimitOfAll();
        everyBusInEverySlot();
        limitFilledInEverySlot();
        greatestCostAndCharges();
        without();
        rule();
        takeRule();
        bestRule();
        bestIsFoundAnew();
        C.finish();
    }

    // ---- what is told

    private static void newObject() {
        DepotCharge d = new DepotCharge();
        C.same("no curves", d.count(2), 0);
        C.same("no buses", d.count(1), 0);
        for (int s = 0; s < 4; s++) {
            C.same("the plan is empty", d.plan(s), 0);
        }
        C.same("no bytes", d.count(6), 0);
        C.same("no fault", d.fault(), 0);
        C.still("no curve 0", d, () -> d.curve(0, -1, 0), -1);
        C.still("no bus 0", d, () -> d.takes(0, 0), -1);
        C.still("no bus 0", d, () -> d.slots(0, 0, 0), -1);
        C.still("no bus 0", d, () -> d.level(0, 0), -1);
        C.still("no bus 0", d, () -> d.lack(0), -1);
        C.still("no bus 0", d, () -> d.late(0, 0), -1);
        C.still("no bus 0", d, () -> d.latest(0), -1);
        C.still("no bus 0", d, () -> d.without(1), -1);
        C.still("no bus 0", d, () -> d.charge(0, 0, true) ? 1 : 0, 0);
        C.still("nobody lacks", d, () -> d.best(3), 0);
        C.still("nobody lacks", d, () -> d.were(0, 4), 0);
        C.still("nobody lacks", d, () -> d.without(0), 0);
        C.still("the least of all", d, () -> d.least(0), 1);
        C.still("the least of all", d, () -> d.least(1), 1);
        C.still("the least of all", d, () -> d.least(2), 1);
        C.still("take of nothing", d, d::take, 0);
        C.still("take of nothing", d, () -> d.takeRule(3), 0);
        C.still("the first of all", d, d::bestRule, 0);
        DepotCharge other = Checks.depot(TWO);
        C.same("another object", other.count(1), 2);
        C.same("is another one", d.count(1), 0);
    }

    private static void feedTo400() {
        DepotCharge d = new DepotCharge();
        Checks.feed(d, "plugs 3; ");
        for (int n = 29; n <= 389; n += 20) {
            C.same("feed", d.feed(0x20202020, 0x20202020, 0x20202020, 0x20202020, 0x20202020), n);
        }
        for (int n = 400; n > 380; n--) {
            DepotCharge e = new DepotCharge();
            for (int i = 0; i < 20; i++) {
                e.feed(0x20202020, 0x20202020, 0x20202020, 0x20202020, 0x20202020);
            }
            C.yes("cut", e.end(n));
            C.still("no place for twenty", e, () -> e.feed(0x20202020, 0x20202020, 0x20202020, 0x20202020, 0x20202020), -1);
        }
        C.still("389 and 20", d, () -> d.feed(MIN, MIN, MIN, MIN, MIN), -1);
        C.same("none came", d.tell(), 1);
        C.same("told", d.count(3), 3);
        C.same("an empty one has place again", d.feed(MIN, -1, 0, 1, MAX), 20);
    }

    private static void feedHighestFirst() {
        DepotCharge d = new DepotCharge();
        // "limi" "t 19" "9;" and blanks, each number's highest byte ahead
        C.same("feed", d.feed(0x6c696d69, 0x74203139, 0x393b2020, 0x20202020, 0x20202020), 20);
        C.same("tell", d.tell(), 1);
        C.same("limit", d.count(5), 199);
        // Numbers below 0: the highest byte is 0xbb, no semicolon (0x3b).
        C.same("feed", d.feed(0x6c696d69, 0x74203130, 0xbb202020, 0x20202020, 0x20202020), 20);
        C.same("tell", d.tell(), -1);
        C.same("can't stand there", d.fault(), 1 + 8 * 8);
    }

    private static void end() {
        DepotCharge d = new DepotCharge();
        C.still("empty", d, () -> d.end(0) ? 1 : 0, 1);
        C.still("it has not one", d, () -> d.end(1) ? 1 : 0, 0);
        Checks.feed(d, "plugs 2;plugs 3;");
        C.same("16", d.count(6), 16);
        C.still("one more", d, () -> d.end(17) ? 1 : 0, 0);
        C.still("below 0", d, () -> d.end(-1) ? 1 : 0, 0);
        for (int n : FAR) {
            C.still("far", d, () -> d.end(n) ? 1 : 0, 0);
        }
        C.still("as many", d, () -> d.end(16) ? 1 : 0, 1);
        C.yes("one less", d.end(15));
        C.same("15", d.count(6), 15);
        C.still("what is cut is gone", d, () -> d.end(16) ? 1 : 0, 0);
        C.yes("the first", d.end(8));
        Checks.feed(d, "power 7;");
        C.same("the next come behind", d.tell(), 2);
        C.same("the first", d.count(3), 2);
        C.same("the next", d.count(4), 7);
        Checks.feed(d, "x");
        C.yes("0", d.end(0));
        C.same("nothing to tell", d.tell(), 0);
    }

    private static void tellOfNothing() {
        DepotCharge d = Checks.depot(TWO);
        C.still("no bytes", d, d::tell, 0);
        Checks.feed(d, "  \n \n\n");
        C.same("blanks", d.tell(), 0);
        C.same("no fault", d.fault(), 0);
        C.same("no bytes", d.count(6), 0);
    }

    private static void tellEmptiesTheTape() {
        DepotCharge d = new DepotCharge();
        StringBuilder most = new StringBuilder();
        for (int i = 0; i < 57; i++) {
            most.append("limit").append(i % 9 + 1).append(';');
        }
        Checks.feed(d, most.toString());
        C.same("399 bytes", d.count(6), 399);
        C.same("57 statements", d.tell(), 57);
        C.same("empty", d.count(6), 0);
        C.same("nothing is told twice", d.tell(), 0);
        Checks.feed(d, "limit 0;");
        C.same("a fault", d.tell(), -1);
        C.same("empty", d.count(6), 0);
        C.same("nothing is told twice", d.tell(), 0);
        // 400 bytes without an end: the place is the text's length.
        Checks.feed(d, "limit 1" + " ".repeat(393));
        C.same("400 bytes", d.count(6), 400);
        C.same("a fault", d.tell(), -1);
        C.same("at 400", d.fault(), 1 + 8 * 400);
        Checks.feed(d, " ".repeat(392) + "limit 2;");
        C.same("400 bytes", d.tell(), 1);
        C.same("limit", d.count(5), 2);
    }

    private static void tellWithFault() {
        String[] all = {"slots 5;", "slots 4;", "price 2 77;", "plugs 4;", "power 1;", "limit 1;", "curve 0 7 9 9;",
            "bus 0 200 1 2 3 4;", "charge 0;", "charge 3 0 1;", "slots 1; bus 0 9 0 9 0 1; charge 0 0;"};
        for (String text : all) {
            DepotCharge d = Checks.depot(TWO);
            List<Integer> before = Checks.stateOf(d);
            int[] figures = {d.sum(0), d.best(0), d.best(3), d.rule(1, 0)};
            Checks.feed(d, text + "?");
            C.same("fault behind " + text, d.tell(), -1);
            C.same("its place", d.fault(), 1 + 8 * text.length());
            List<Integer> behind = Checks.stateOf(d);
            behind.set(0, before.get(0));
            C.yes("all else stays as it was behind " + text, behind.equals(before));
            int[] again = {d.sum(0), d.best(0), d.best(3), d.rule(1, 0)};
            C.yes("so do answers behind " + text, Arrays.equals(figures, again));
        }
    }

    private static void tellWithFaultKeepsFullCurves() {
        DepotCharge d = Checks.depot("curve 0 1 1 2 2 3 3 4; curve 0 5 1 6 2 7 3 8; curve 0 9 1 10 2 11 3 12; curve 0 13 1 14 2 15 99 16;");
        List<Integer> before = Checks.stateOf(d);
        C.same("told", Checks.tell(d, "slots 4;"), 1);
        C.yes("curves go on", Checks.stateOf(d).equals(before));
        C.same("a fifth", Checks.tell(d, "curve 0 1;"), -1);
        C.same("nothing to tell", d.tell(), 0);
        C.yes("curves stay", Checks.stateOf(d).equals(before));
    }

    private static void faultOfTheLatest() {
        DepotCharge d = new DepotCharge();
        C.still("ahead of any", d, d::fault, 0);
        Checks.feed(d, "plugs 1;");
        C.same("fed alone", d.fault(), 0);
        d.tell();
        C.same("without", d.fault(), 0);
        Checks.feed(d, "  plugs 5;");
        d.tell();
        C.same("2 at 8", d.fault(), 2 + 8 * 8);
        C.still("asked again", d, d::fault, 2 + 8 * 8);
        Checks.feed(d, "plugs 3;");
        C.same("fed alone", d.fault(), 2 + 8 * 8);
        d.set(0, 2);
        C.same("other calls leave it", d.fault(), 2 + 8 * 8);
        d.tell();
        C.same("without", d.fault(), 0);
        Checks.tell(d, "x");
        C.same("1 at 0", d.fault(), 1);
        d.tell();
        C.same("an empty one has none", d.fault(), 0);
    }

    private static void set() {
        DepotCharge d = Checks.depot(TWO);
        int[] is = {2, 20, 40, 10, 10, 3, 10};
        int[] least = {1, 1, 1, 0, 0, 0, 0};
        int[] most = {4, 50, 200, 99, 99, 99, 99};
        for (int what = 0; what < 7; what++) {
            int w = what;
            C.still("it is so", d, () -> d.set(w, is[w]) ? 1 : 0, 0);
            C.still("too small", d, () -> d.set(w, least[w] - 1) ? 1 : 0, 0);
            C.still("too large", d, () -> d.set(w, most[w] + 1) ? 1 : 0, 0);
            C.still("far", d, () -> d.set(w, MIN) ? 1 : 0, 0);
            C.still("far", d, () -> d.set(w, MAX) ? 1 : 0, 0);
            int place = what < 3 ? 3 + what : 7 + what;
            C.yes("least", d.set(what, least[what]));
            C.same("least", d.count(place), least[what]);
            C.still("it is so", d, () -> d.set(w, least[w]) ? 1 : 0, 0);
            C.yes("most", d.set(what, most[what]));
            C.same("most", d.count(place), most[what]);
        }
        C.still("no slot T", d, () -> d.set(7, 5) ? 1 : 0, 0);
        C.still("what below 0", d, () -> d.set(-1, 5) ? 1 : 0, 0);
        for (int what : FAR) {
            C.still("no what", d, () -> d.set(what, 1) ? 1 : 0, 0);
            C.still("no what", d, () -> d.set(what + 3, 1) ? 1 : 0, 0);
        }
        Checks.tell(d, "slots 8;");
        C.yes("slot 7", d.set(10, 5));
        C.still("no slot 8", d, () -> d.set(11, 5) ? 1 : 0, 0);
        Checks.tell(d, "slots 1;");
        C.still("no slot 1", d, () -> d.set(4, 5) ? 1 : 0, 0);
    }

    private static void busTooSmallOrLarge() {
        DepotCharge d = Checks.depot(TWO);
        int[][] cant = {
            {-1, 50, 0, 0, 0, 4}, {2, 50, 0, 0, 0, 4}, {0, 0, 0, 0, 0, 4}, {0, -1, 0, 0, 0, 4}, {0, 201, 0, 0, 0, 4},
            {0, 50, -1, 0, 0, 4}, {0, 50, 51, 0, 0, 4}, {0, 50, 0, -1, 0, 4}, {0, 50, 0, 51, 0, 4},
            {0, 50, 0, 0, -1, 4}, {0, 50, 0, 0, 4, 4}, {0, 50, 0, 0, 4, 5}, {0, 50, 0, 0, 0, 0}, {0, 50, 0, 0, 0, 5},
            {0, 50, 0, 0, 2, 2}, {0, 50, 0, 0, 3, 2}, {0, 50, 0, 0, 0, -1}, {0, 50, 0, 0, -2, -1}, {0, 50, 0, 0, 5, 6}};
        for (int[] n : cant) {
            C.still("can't be " + Arrays.toString(n), d, () -> d.bus(n[0], n[1], n[2], n[3], n[4], n[5]), -1);
        }
        for (int place = 0; place < 6; place++) {
            for (int far : FAR) {
                int[] n = {0, 20, 0, 0, 0, 4};
                n[place] = far;
                if (place != 1 || far != 32) {
                    C.still("far " + Arrays.toString(n), d, () -> d.bus(n[0], n[1], n[2], n[3], n[4], n[5]), -1);
                }
            }
        }
        C.same("least of all", d.bus(0, 1, 0, 0, 0, 1), 2);
        C.same("left", d.drop(), 2);
        C.same("most of all", d.bus(1, 200, 200, 200, 3, 4), 2);
        C.same("the plan stays", d.plan(0), 1);
        C.same("the plan stays", d.plan(1), 3);
    }

    private static void busFull() {
        DepotCharge d = Checks.depot(FOUR + "charge 4 0 3;");
        C.still("there are 4", d, () -> d.bus(0, 90, 0, 20, 0, 8), -2);
        C.still("there are 4, and it can't be", d, () -> d.bus(1, 90, 0, 20, 0, 8), -1);
        C.same("one goes", d.drop(), 3);
        C.same("one more", d.bus(0, 90, 0, 20, 0, 8), 3);
        C.still("there are 4", d, () -> d.bus(0, 90, 0, 20, 0, 8), -2);
        C.same("what was dropped is not in the plan", d.plan(4), 1);
    }

    private static void drop() {
        DepotCharge d = Checks.depot(FOUR + "charge 0 0 1 2 3; charge 7 3; charge 4 2 3;");
        int[][] sets = {{7, 0, 4}, {3, 0, 0}, {1, 0, 0}, {0, 0, 0}};
        for (int left = 3; left >= 0; left--) {
            C.same("left", d.drop(), left);
            C.same("left", d.count(1), left);
            C.same("out of slot 0", d.plan(0), sets[3 - left][0]);
            C.same("out of slot 7", d.plan(7), sets[3 - left][1]);
            C.same("out of slot 4", d.plan(4), sets[3 - left][2]);
        }
        C.still("there is none", d, d::drop, -1);
        C.still("there is none", d, d::drop, -1);
        C.same("curves stay", d.count(2), 1);
    }

    private static void charge() {
        DepotCharge d = Checks.depot(FOUR);
        for (int s = 0; s < 8; s++) {
            for (int b = 0; b < 4; b++) {
                int slot = s;
                int bus = b;
                C.still("not charged: it is so", d, () -> d.charge(slot, bus, false) ? 1 : 0, 0);
                C.yes("charged", d.charge(s, b, true));
                C.same("its set", d.plan(s), (2 << b) - 1);
                C.still("charged: it is so", d, () -> d.charge(slot, bus, true) ? 1 : 0, 0);
            }
        }
        C.yes("not", d.charge(7, 2, false));
        C.same("its set", d.plan(7), 11);
        for (boolean is : new boolean[] {true, false}) {
            C.still("slot T", d, () -> d.charge(8, 0, is) ? 1 : 0, 0);
            C.still("slot below 0", d, () -> d.charge(-1, 0, is) ? 1 : 0, 0);
            C.still("bus 4", d, () -> d.charge(0, 4, is) ? 1 : 0, 0);
            C.still("bus below 0", d, () -> d.charge(0, -1, is) ? 1 : 0, 0);
            for (int n : FAR) {
                C.still("far slot", d, () -> d.charge(n, 0, is) ? 1 : 0, 0);
                C.still("far bus", d, () -> d.charge(0, n, is) ? 1 : 0, 0);
            }
        }
        d.drop();
        C.still("a bus that has gone", d, () -> d.charge(0, 3, true) ? 1 : 0, 0);
    }

    private static void clear() {
        DepotCharge d = Checks.depot(FOUR);
        C.still("empty", d, d::clear, 0);
        for (int s = 0; s < 8; s++) {
            for (int b = 0; b < 4; b++) {
                d.charge(s, b, true);
            }
        }
        C.same("all, those not there too", d.clear(), 32);
        for (int s = 0; s < 8; s++) {
            C.same("empty", d.plan(s), 0);
        }
        C.still("empty", d, d::clear, 0);
        C.same("buses stay", d.count(1), 4);
    }

    private static void count() {
        DepotCharge d = Checks.depot("slots 8; price 7 8; price 0 1; curve 0 9;");
        Checks.feed(d, "abc");
        int[] want = {8, 0, 1, 1, 20, 40, 3, -1, -1, -1, 1, 10, 10, 10, 10, 10, 10, 8, -1, -1};
        for (int what = 0; what < want.length; what++) {
            int w = what;
            C.still("count " + what, d, () -> d.count(w), want[what]);
        }
        C.still("below 0", d, () -> d.count(-1), -1);
        for (int what : FAR) {
            C.still("far", d, () -> d.count(what), -1);
            C.still("far", d, () -> d.count(what + 10), what == -4 ? 3 : what == -8 ? 1 : -1);
        }
        Checks.feed(d, "");
        d.tell();
        Checks.tell(d, "slots 1;");
        C.same("slot 0", d.count(10), 10);
        C.same("no slot 1", d.count(11), -1);
    }

    private static int toldOrThrown(DepotCharge d, int bus, int what) {
        try {
            return d.told(bus, what);
        } catch (NoSuchElementException e) {
            return e.getClass() == NoSuchElementException.class ? -7 : -8;
        }
    }

    private static void told() {
        DepotCharge d = Checks.depot(TWO);
        int[][] want = {{0, 100, 0, 45, 0, 4}, {1, 40, 10, 20, 1, 3}};
        for (int b = 0; b < 2; b++) {
            int bus = b;
            for (int what = 0; what < 6; what++) {
                C.same("told", toldOrThrown(d, b, what), want[b][what]);
            }
            C.still("what 6", d, () -> toldOrThrown(d, bus, 6), -7);
            C.still("what below 0", d, () -> toldOrThrown(d, bus, -1), -7);
            for (int what : FAR) {
                C.still("far what", d, () -> toldOrThrown(d, bus, what), -7);
            }
        }
        C.still("bus 2", d, () -> toldOrThrown(d, 2, 0), -7);
        C.still("bus below 0", d, () -> toldOrThrown(d, -1, 0), -7);
        // -1 and what 6 would fall on BUS 0 in one row of numbers, so would 1 << 30 by its lowest bits.
        C.still("both wrong", d, () -> toldOrThrown(d, -1, 6), -7);
        for (int bus : FAR) {
            C.still("far bus", d, () -> toldOrThrown(d, bus, 0), -7);
        }
        d.drop();
        C.still("a bus that has gone", d, () -> toldOrThrown(d, 1, 0), -7);
    }

    private static void curve() {
        DepotCharge d = Checks.depot("curve 0 9 1 8 99 7 100 6; curve 0 5; curve 0 50 2 1;");
        int[] pieces = {4, 1, 2};
        for (int c = 0; c < 3; c++) {
            int curve = c;
            C.still("pieces", d, () -> d.curve(curve, -1, 0), pieces[c]);
            C.still("no rate of all", d, () -> d.curve(curve, -1, 1), -1);
            C.still("behind the last piece", d, () -> d.curve(curve, pieces[curve], 0), -1);
            C.still("behind the last piece", d, () -> d.curve(curve, pieces[curve], 1), -1);
            C.still("last piece", d, () -> d.curve(curve, pieces[curve] - 1, 2), -1);
            C.still("what below 0", d, () -> d.curve(curve, 0, -1), -1);
            C.still("k below NONE", d, () -> d.curve(curve, -2, 0), -1);
            for (int n : FAR) {
                C.still("far k", d, () -> d.curve(curve, n, 0), -1);
                C.still("far what", d, () -> d.curve(curve, 0, n), -1);
                C.still("far what", d, () -> d.curve(curve, -1, n), -1);
            }
        }
        C.still("last from", d, () -> d.curve(0, 3, 0), 100);
        C.still("last rate", d, () -> d.curve(0, 3, 1), 6);
        C.still("first from", d, () -> d.curve(2, 0, 0), 0);
        C.still("first rate", d, () -> d.curve(2, 0, 1), 50);
        C.still("no curve 3", d, () -> d.curve(3, -1, 0), -1);
        C.still("no curve 3", d, () -> d.curve(3, 0, 0), -1);
        C.still("curve below 0", d, () -> d.curve(-1, -1, 0), -1);
        C.still("curve 4", d, () -> d.curve(4, 0, 0), -1);
        for (int n : FAR) {
            C.still("far curve", d, () -> d.curve(n, 0, 0), -1);
        }
    }

    private static void takes() {
        DepotCharge d = Checks.depot(TWO);
        C.still("level 0", d, () -> d.takes(0, 0), 20);
        C.still("below half", d, () -> d.takes(0, 49), 20);
        C.still("half", d, () -> d.takes(0, 50), 10);
        C.still("capacity", d, () -> d.takes(0, 100), 0);
        C.still("above capacity", d, () -> d.takes(0, 101), -1);
        C.still("below 0", d, () -> d.takes(0, -1), -1);
        C.still("capacity of bus 1", d, () -> d.takes(1, 40), 0);
        C.still("above capacity of bus 1", d, () -> d.takes(1, 41), -1);
        C.still("bus 2", d, () -> d.takes(2, 0), -1);
        C.still("bus below 0", d, () -> d.takes(-1, 0), -1);
        for (int n : FAR) {
            C.still("far bus", d, () -> d.takes(n, 0), -1);
            C.still("far level", d, () -> d.takes(0, n), n == 32 ? 20 : -1);
        }
    }

    private static void slots() {
        // BUS 1 takes 5 in each: from 10 to 40 six of them. BUS 0: 0 20 40 60 70 80 90 100.
        DepotCharge d = Checks.depot(TWO);
        C.still("to capacity", d, () -> d.slots(1, 10, 40), 6);
        C.still("above capacity", d, () -> d.slots(1, 10, 41), -1);
        C.still("above capacity from there", d, () -> d.slots(1, 40, 41), -1);
        C.still("at capacity", d, () -> d.slots(1, 40, 40), 0);
        C.still("as the first", d, () -> d.slots(1, 17, 17), 0);
        C.still("one below the first", d, () -> d.slots(1, 17, 16), 0);
        C.still("one above", d, () -> d.slots(1, 17, 18), 1);
        C.still("exactly one", d, () -> d.slots(1, 17, 22), 1);
        C.still("one more than that", d, () -> d.slots(1, 17, 23), 2);
        C.still("or more", d, () -> d.slots(0, 40, 60), 1);
        C.still("the curve goes on", d, () -> d.slots(0, 0, 100), 7);
        C.still("more slots than T", d, () -> d.slots(0, 0, 61), 4);
        C.still("from below 0", d, () -> d.slots(1, -1, 10), -1);
        C.still("from above capacity", d, () -> d.slots(1, 41, 10), -1);
        C.still("to below 0 is not above the first", d, () -> d.slots(1, 0, -1), 0);
        C.still("bus 2", d, () -> d.slots(2, 0, 0), -1);
        C.still("bus below 0", d, () -> d.slots(-1, 0, 0), -1);
        for (int n : FAR) {
            C.still("far bus", d, () -> d.slots(n, 0, 0), -1);
            C.still("far first", d, () -> d.slots(1, n, 0), n == 32 ? 0 : -1);
            C.still("far other", d, () -> d.slots(1, 0, n), n < 0 ? 0 : n == 32 ? 7 : -1);
        }
        DepotCharge slow = Checks.depot("power 1; curve 0 50; bus 0 200 0 0 0 1;");
        C.still("the most", slow, () -> slow.slots(0, 0, 200), 200);
    }

    // ---- the plan

    private static void plan() {
        DepotCharge d = Checks.depot(FOUR + "charge 0 0; charge 7 0 1 2 3;");
        C.still("slot 0", d, () -> d.plan(0), 1);
        C.still("slot 7", d, () -> d.plan(7), 15);
        C.still("slot T", d, () -> d.plan(8), -1);
        C.still("below 0", d, () -> d.plan(-1), -1);
        for (int n : FAR) {
            C.still("far slot", d, () -> d.plan(n), -1);
        }
        Checks.tell(d, "slots 1;");
        C.still("slot T of fewer", d, () -> d.plan(1), -1);
    }

    private static void level() {
        DepotCharge d = Checks.depot(TWO);
        C.still("at the beginning", d, () -> d.level(0, 0), 0);
        C.still("behind slot 0", d, () -> d.level(0, 1), 20);
        C.still("at the end", d, () -> d.level(0, 4), 40);
        C.still("at the end", d, () -> d.level(1, 4), 15);
        C.still("behind the end", d, () -> d.level(0, 5), -1);
        C.still("below 0", d, () -> d.level(0, -1), -1);
        C.still("bus 2", d, () -> d.level(2, 0), -1);
        C.still("bus below 0", d, () -> d.level(-1, 0), -1);
        for (int n : FAR) {
            C.still("far bus", d, () -> d.level(n, 0), -1);
            C.still("far slot", d, () -> d.level(0, n), -1);
        }
        DepotCharge eight = Checks.depot(FOUR);
        C.still("T of 8", eight, () -> eight.level(3, 8), 0);
        C.still("behind T of 8", eight, () -> eight.level(3, 9), -1);
    }

    private static void used() {
        DepotCharge d = Checks.depot(TWO);
        C.still("slot 0", d, () -> d.used(0), 20);
        C.still("slot 1", d, () -> d.used(1), 25);
        C.still("nobody", d, () -> d.used(3), 0);
        C.still("slot T", d, () -> d.used(4), -1);
        C.still("below 0", d, () -> d.used(-1), -1);
        for (int n : FAR) {
            C.still("far slot", d, () -> d.used(n), -1);
        }
    }

    private static void sum() {
        DepotCharge d = Checks.depot(TWO);
        DepotCharge less = Checks.depot(TWO);
        C.same("peak", less.sum(1), 25);
        less.clear();
        C.same("no peak of old", less.sum(1), 0);
        int[] want = {450, 25, 3, 10, 4, -1};
        for (int what = 0; what < want.length; what++) {
            int w = what;
            C.still("sum " + what, d, () -> d.sum(w), want[what]);
        }
        C.still("below 0", d, () -> d.sum(-1), -1);
        C.still("10 is no slot here", d, () -> d.sum(10), -1);
        for (int n : FAR) {
            C.still("far what", d, () -> d.sum(n), -1);
        }
    }

    private static void lack() {
        DepotCharge d = Checks.depot(TWO);
        C.still("bus 0", d, () -> d.lack(0), 5);
        C.still("bus 1", d, () -> d.lack(1), 5);
        C.still("bus 2", d, () -> d.lack(2), -1);
        C.still("below 0", d, () -> d.lack(-1), -1);
        for (int n : FAR) {
            C.still("far bus", d, () -> d.lack(n), -1);
        }
        d.charge(2, 1, true);
        C.still("none now", d, () -> d.lack(1), 0);
    }

    // ---- the best plan

    private static void best() {
        // BUS 0 in three of 0 to 3 (20 each, to 60), BUS 1 in 1 and 2 (5 each); PRICE of SLOT 2 is 3.
        DepotCharge d = Checks.depot(TWO);
        int[] want = {400 + 60 + 50 + 15, 25, 5, 0, -1};
        for (int what = 0; what < want.length; what++) {
            int w = what;
            C.still("best " + what, d, () -> d.best(w), want[what]);
        }
        C.still("below 0", d, () -> d.best(-1), -1);
        C.still("10 is no slot here", d, () -> d.best(10), -1);
        for (int n : FAR) {
            C.still("far what", d, () -> d.best(n), -1);
        }
    }

    private static void take() {
        DepotCharge d = Checks.depot(TWO);
        C.same("charges", d.take(), 5);
        int[] sets = {0, 3, 3, 1};
        for (int s = 0; s < 4; s++) {
            C.same("set " + s, d.plan(s), sets[s]);
        }
        C.same("right", d.sum(4), 0);
        C.still("taken again", d, d::take, 5);
        DepotCharge none = Checks.depot("curve 0 9; bus 0 90 0 0 0 4; charge 0 0;");
        C.same("an empty one", none.take(), 0);
        C.same("is the plan", none.plan(0), 0);
    }

    private static void late() {
        DepotCharge d = Checks.depot(FOUR);
        C.still("0", d, () -> d.late(0, 0), 800);
        C.still("0 is as best", d, () -> d.best(0), 800);
        C.still("6 later", d, () -> d.late(0, 6), 800);
        C.still("7 later is one slot", d, () -> d.late(0, 7), -2);
        C.still("8 later", d, () -> d.late(0, 8), -2);
        C.still("9 later", d, () -> d.late(0, 9), -1);
        C.still("below 0", d, () -> d.late(0, -1), -1);
        C.still("bus 3 has no slot to spare", d, () -> d.late(3, 1), -2);
        C.still("bus 4", d, () -> d.late(4, 0), -1);
        C.still("bus below 0", d, () -> d.late(-1, 0), -1);
        for (int n : FAR) {
            C.still("far bus", d, () -> d.late(n, 0), -1);
            C.still("far by", d, () -> d.late(0, n), -1);
        }
    }

    private static void lateNotThereInAny() {
        // BUS 0 has NEED already, BUS 1 goes behind SLOT 1, and the cheap SLOTS are behind that.
        DepotCharge d = Checks.depot("price 2 0; price 3 0; curve 0 10; bus 0 90 20 20 0 4; bus 0 90 0 10 0 2;");
        for (int by = 0; by <= 8; by++) {
            int n = by;
            C.still("without need it may come never", d, () -> d.late(0, n), 100);
            C.still("it goes when it goes", d, () -> d.late(1, n), by < 2 ? 100 : -2);
        }
        DepotCharge early = Checks.depot("slots 8; curve 0 10; bus 0 90 0 10 0 1;");
        C.still("a slot later it has gone", early, () -> early.late(0, 1), -2);
    }

    private static void latest() {
        DepotCharge d = Checks.depot(FOUR);
        C.still("bus 0", d, () -> d.latest(0), 6);
        C.still("bus 3", d, () -> d.latest(3), 0);
        C.still("bus 4", d, () -> d.latest(4), -1);
        C.still("below 0", d, () -> d.latest(-1), -1);
        for (int n : FAR) {
            C.still("far bus", d, () -> d.latest(n), -1);
        }
        // BUS 1 has LACK whatever BUS 0 does.
        DepotCharge other = Checks.depot("curve 0 10; bus 0 90 0 10 0 4; bus 0 90 0 50 0 4;");
        C.still("lack of any", other, () -> other.latest(0), -2);
        DepotCharge ready = Checks.depot("slots 1; curve 0 10; bus 0 90 10 10 0 1;");
        C.still("as late() no more than 8", ready, () -> ready.latest(0), 8);
        // Two of four SLOTS are BUS 1's, so BUS 0 must come for the rest.
        DepotCharge shared = Checks.depot("curve 0 10; bus 0 90 0 20 0 4; bus 0 90 0 20 2 4;");
        C.still("where others are charged", shared, () -> shared.latest(0), 0);
        C.still("by itself it could", shared, () -> shared.late(0, 1), -2);
        shared.set(0, 2);
        C.still("with a plug more", shared, () -> shared.latest(0), 2);
    }

    private static void were() {
        DepotCharge d = Checks.depot(TWO);
        int[] most = {4, 50, 200};
        for (int what = 0; what < 3; what++) {
            int w = what;
            C.still("0", d, () -> d.were(w, 0), -1);
            C.still("below 0", d, () -> d.were(w, -1), -1);
            C.still("too large", d, () -> d.were(w, most[w] + 1), -1);
            C.still("most", d, () -> d.were(w, most[w]), 525);
            for (int n : FAR) {
                int want = n == 32 && w == 1 ? 525 : n == 32 && w == 2 ? 525 : -1;
                C.still("far v", d, () -> d.were(w, n), want);
            }
        }
        C.still("it is so", d, () -> d.were(0, 2), 525);
        C.still("one plug is too few", d, () -> d.were(0, 1), -2);
        C.still("power 1", d, () -> d.were(1, 1), -2);
        C.still("power 11", d, () -> d.were(1, 11), -2);
        // 12, 24, 36, 48
        C.still("power 12", d, () -> d.were(1, 12), 12 * 33 + 65);
        C.still("limit 25", d, () -> d.were(2, 25), 525);
        C.still("limit 24", d, () -> d.were(2, 24), -2);
        C.still("limit 1", d, () -> d.were(2, 1), -2);
        C.still("what 3", d, () -> d.were(3, 10), -1);
        C.still("what below 0", d, () -> d.were(-1, 1), -1);
        for (int n : FAR) {
            C.still("far what", d, () -> d.were(n, 1), -1);
        }
    }

    private static void least() {
        DepotCharge d = Checks.depot(TWO);
        C.still("plugs", d, () -> d.least(0), 2);
        C.still("power", d, () -> d.least(1), 12);
        C.still("limit", d, () -> d.least(2), 25);
        C.still("what 3", d, () -> d.least(3), -1);
        C.still("what below 0", d, () -> d.least(-1), -1);
        for (int n : FAR) {
            C.still("far what", d, () -> d.least(n), -1);
        }
        DepotCharge ready = Checks.depot("plugs 3; power 7; limit 9; curve 0 50; bus 0 90 10 10 0 4;");
        for (int what = 0; what < 3; what++) {
            int w = what;
            C.still("nobody lacks", ready, () -> ready.least(w), 1);
        }
        // All four at once in one SLOT, 50 each.
        DepotCharge most = Checks.depot("slots 1; plugs 4; power 50; limit 200; curve 0 50; bus 0 90 0 50 0 1;"
            + "bus 0 90 0 50 0 1; bus 0 90 0 50 0 1; bus 0 90 0 50 0 1;");
        C.still("four plugs", most, () -> most.least(0), 4);
        C.still("power 50", most, () -> most.least(1), 50);
        C.still("limit 200", most, () -> most.least(2), 200);
    }

    private static void leastNone() {
        DepotCharge slow = Checks.depot("plugs 4; power 50; limit 200; curve 0 9; bus 0 90 0 37 0 4;");
        for (int what = 0; what < 3; what++) {
            int w = what;
            C.still("none, the curve is too slow", slow, () -> slow.least(w), -1);
        }
        // One PLUG: each has one SLOT, and LIMIT 10 is below the 15 that it needs there; the others stay as they are.
        DepotCharge plugs = Checks.depot("slots 2; limit 10; curve 0 50; bus 0 90 0 15 0 2; bus 0 90 0 15 0 2;");
        C.still("no power does", plugs, () -> plugs.least(1), -1);
        C.still("no plugs do", plugs, () -> plugs.least(0), -1);
        C.still("a limit does", plugs, () -> plugs.least(2), 20);
        // LIMIT 30 stands between: 15 each does, 16 each does not.
        DepotCharge between = Checks.depot("slots 1; plugs 2; limit 30; curve 0 50; bus 0 90 0 15 0 1; bus 0 90 0 15 0 1;");
        C.still("15 alone", between, () -> between.least(1), 15);
        C.still("14", between, () -> between.were(1, 14), -2);
        C.still("16", between, () -> between.were(1, 16), -2);
    }

    /** All that four BUSES in one SLOT can take together, from 1 to 200. */
    private static void leastLimitOfAll() {
        for (int all = 1; all <= 200; all++) {
            StringBuilder text = new StringBuilder("slots 1; plugs 4; power 50; curve 0 50;");
            for (int rest = all; rest > 0; rest -= 50) {
                text.append("bus 0 ").append(Math.min(rest, 50)).append(" 0 1 0 1;");
            }
            DepotCharge d = Checks.depot(text.toString());
            C.same("limit " + all, d.least(2), all);
        }
    }

    private static void everyBusInEverySlot() {
        DepotCharge d = Checks.depot("slots 8; plugs 4; power 5; limit 20; curve 0 5;"
            + "bus 0 90 0 40 0 8; bus 0 90 0 40 0 8; bus 0 90 0 40 0 8; bus 0 90 0 40 0 8;");
        C.same("no lack", d.best(3), 0);
        C.same("all", d.take(), 32);
        for (int s = 0; s < 8; s++) {
            C.same("set " + s, d.plan(s), 15);
        }
        d.set(2, 19);
        C.same("three in each", d.best(3), 40);
        C.same("three in each", d.take(), 24);
        C.same("bus 3 has nothing", d.plan(0), 7);
        // Of an earlier BEST nothing is left where fewer are charged.
        d.set(1, 4);
        C.same("all, and not enough", d.best(3), 32);
        C.same("four in each", d.take(), 32);
        d.set(0, 1);
        C.same("one in each", d.take(), 8);
        int[] sets = {1, 1, 1, 1, 1, 1, 1, 1};
        for (int s = 0; s < 8; s++) {
            C.same("set " + s, d.plan(s), sets[s]);
        }
        DepotCharge last = Checks.depot("curve 0 5; bus 0 90 0 0 0 4; bus 0 90 0 0 0 4; bus 0 90 0 0 0 4; bus 0 90 0 5 3 4; charge 3 3;");
        C.same("bus 3 alone is one charge", last.sum(2), 1);
        C.same("bus 3 alone is right", last.sum(4), 0);
        C.same("bus 3 alone", last.take(), 1);
        C.same("bus 3 alone", last.plan(3), 8);
    }

    private static void limitFilledInEverySlot() {
        // 1 and 10 in each SLOT.
        DepotCharge d = Checks.depot("plugs 2; power 10; limit 11; curve 0 1; curve 0 10; bus 0 90 0 4 0 4; bus 1 90 0 40 0 4;");
        C.still("cost", d, () -> d.were(2, 11), 440);
        C.still("one less", d, () -> d.were(2, 10), -2);
        C.still("least", d, () -> d.least(2), 11);
        C.still("one plug", d, () -> d.were(0, 1), -2);
        C.still("no slot to spare", d, () -> d.latest(0), 0);
        C.same("all", d.take(), 8);
        C.same("right", d.sum(4), 0);
    }

    private static void greatestCostAndCharges() {
        DepotCharge dear = Checks.depot("plugs 4; power 50; limit 200; price 0 99; price 1 99; price 2 99; price 3 99; curve 0 50;"
            + "bus 0 200 0 200 0 4; bus 0 200 0 200 0 4; bus 0 200 0 200 0 4; bus 0 200 0 200 0 4;");
        int most = 800 * 99;
        C.still("all that can be taken at the greatest price", dear, () -> dear.best(0), most);
        C.still("were", dear, () -> dear.were(0, 4), most);
        C.still("late", dear, () -> dear.late(0, 0), most);
        C.still("without", dear, () -> dear.without(15), most);
        C.still("one bus less", dear, () -> dear.without(14), most / 4 * 3);
        C.still("by a rule", dear, () -> dear.rule(2, 0), most);
        DepotCharge often = Checks.depot("slots 8; plugs 4; power 1; limit 4; curve 0 1;"
            + "bus 0 90 0 8 0 8; bus 0 90 0 8 0 8; bus 0 90 0 8 0 8; bus 0 90 0 8 0 8;");
        C.still("32 charges", often, () -> often.best(2), 32);
        C.still("32 charges cost no more than they do", often, () -> often.were(2, 4), 320);
        C.still("24 charges", often, () -> often.without(7), 240);
        // The greatest LACK of all: nobody can be charged.
        DepotCharge none = Checks.depot("plugs 4; power 50; limit 1; curve 0 50;"
            + "bus 0 200 0 200 0 4; bus 0 200 0 200 0 4; bus 0 200 0 200 0 4; bus 0 200 0 200 0 4;");
        C.still("all lacks", none, () -> none.best(3), 800);
        C.still("no cost", none, () -> none.best(0), 0);
        C.still("no charge", none, () -> none.best(2), 0);
    }

    private static void without() {
        DepotCharge d = Checks.depot(FOUR);
        for (int set = 0; set < 16; set++) {
            int n = set;
            C.still("set " + set, d, () -> d.without(n), 200 * Integer.bitCount(set));
        }
        C.still("a fifth", d, () -> d.without(16), -1);
        C.still("a fifth, too", d, () -> d.without(31), -1);
        C.still("below 0", d, () -> d.without(-1), -1);
        for (int n : FAR) {
            C.still("far set", d, () -> d.without(n), -1);
        }
        d.set(0, 1);
        d.set(1, 5);
        C.still("bus 3 alone has two slots for four", d, () -> d.without(8), -2);
        C.still("others have no need", d, () -> d.without(7), -2);
        C.still("others are not charged", d, () -> d.without(3), 400);
        C.still("nobody", d, () -> d.without(0), 0);
        d.drop();
        C.still("a bus that has gone", d, () -> d.without(8), -1);
        C.still("those that are left", d, () -> d.without(6), -2);
        C.still("one of them", d, () -> d.without(4), 200);
    }

    // ---- rules

    private static void rule() {
        DepotCharge d = Checks.depot(TWO);
        for (int r = 0; r < 4; r++) {
            int n = r;
            // BUS 0 is charged in 0 to 2 by all of them, BUS 1 in 1 and 2.
            int[] want = {200 + 250 + 3 * 25, 25, 5, 0};
            for (int what = 0; what < 4; what++) {
                int w = what;
                C.still("rule " + r + ", " + what, d, () -> d.rule(n, w), want[what]);
            }
            for (int what = 4; what < 10; what++) {
                int w = what;
                C.still("no what " + what, d, () -> d.rule(n, w), -1);
            }
            C.still("slot 0", d, () -> d.rule(n, 10), 1);
            C.still("slot 1", d, () -> d.rule(n, 11), 3);
            C.still("last slot", d, () -> d.rule(n, 13), 0);
            C.still("slot T", d, () -> d.rule(n, 14), -1);
            C.still("below 0", d, () -> d.rule(n, -1), -1);
            for (int far : FAR) {
                C.still("far what", d, () -> d.rule(n, far), -1);
            }
        }
        C.still("rule 4", d, () -> d.rule(4, 0), -1);
        C.still("rule 4", d, () -> d.rule(4, 10), -1);
        C.still("rule below 0", d, () -> d.rule(-1, 0), -1);
        for (int far : FAR) {
            C.still("far rule", d, () -> d.rule(far, 0), -1);
        }
        DepotCharge eight = Checks.depot(FOUR);
        C.still("slot 7", eight, () -> eight.rule(0, 17), 0);
        C.still("slot 8", eight, () -> eight.rule(0, 18), -1);
    }

    private static void takeRule() {
        DepotCharge d = Checks.depot(TWO + "charge 3 0 1;");
        C.still("rule 4", d, () -> d.takeRule(4), -1);
        C.still("rule below 0", d, () -> d.takeRule(-1), -1);
        for (int far : FAR) {
            C.still("far rule", d, () -> d.takeRule(far), -1);
        }
        for (int r = 0; r < 4; r++) {
            int n = r;
            d.charge(3, 1, true);
            C.same("charges", d.takeRule(r), 5);
            int[] sets = {1, 3, 3, 0};
            for (int s = 0; s < 4; s++) {
                C.same("set " + s, d.plan(s), sets[s]);
            }
            C.still("taken again", d, () -> d.takeRule(n), 5);
        }
    }

    private static void bestRule() {
        DepotCharge alike = Checks.depot(TWO);
        C.still("all alike: the least", alike, alike::bestRule, 0);
        // BUS 1 goes first: rule 0 has LACK, though it is cheaper.
        DepotCharge lack = Checks.depot("curve 0 10; bus 0 90 0 20 0 4; bus 0 90 0 10 0 1;");
        C.same("cheaper", lack.rule(0, 0), 200);
        C.same("dearer", lack.rule(1, 0), 300);
        C.still("lack ahead of cost", lack, lack::bestRule, 1);
        // The most that lacks first: 10 at 1 and 5 at 9, not 5 at 1 and 10 at 9.
        DepotCharge cost = Checks.depot("slots 2; price 0 1; price 1 9; curve 0 10; curve 0 5; bus 1 90 0 5 0 2; bus 0 90 0 10 0 2;");
        C.still("the least cost", cost, cost::bestRule, 2);
        // BUS 1 lacks as much and goes at the same time, but by more charges: SPARE alone tells.
        DepotCharge spare = Checks.depot("slots 3; curve 0 10; curve 0 5; bus 0 90 0 10 0 3; bus 1 90 0 10 0 2;");
        C.same("rule 2 has lack", spare.rule(2, 3), 5);
        C.same("rule 1 has none", spare.rule(1, 3), 0);
        C.same("rule 3 has none", spare.rule(3, 3), 0);
        C.still("of like ones the least", spare, spare::bestRule, 1);
        // BUS 1 has least to spare (3 - 2), by no other order it is first, and SLOT 0 is dear for the other one.
        DepotCharge only = Checks.depot("slots 3; price 0 9; price 1 1; price 2 1; curve 0 10; curve 0 1;"
            + "bus 0 90 0 10 0 3; bus 1 90 0 2 0 3;");
        for (int r = 0; r < 4; r++) {
            C.same("cost by " + r, only.rule(r, 0), r < 3 ? 92 : 20);
            C.same("no lack by " + r, only.rule(r, 3), 0);
        }
        C.still("the last one", only, only::bestRule, 3);
    }

    /** Whatever changes the depot changes BEST, too: nothing of an earlier one is kept. */
    private static void bestIsFoundAnew() {
        DepotCharge d = Checks.depot(TWO);
        C.same("at first", d.best(0), 525);
        d.set(0, 1);
        C.same("plugs", d.best(3), 5);
        d.set(0, 2);
        C.same("plugs", d.best(0), 525);
        d.set(1, 12);
        C.same("power", d.best(0), 12 * 33 + 65);
        d.set(1, 20);
        d.set(2, 24);
        C.same("limit", d.best(3), 5);
        d.set(2, 40);
        d.set(4, 0);
        C.same("price", d.best(0), 60 + 15 + 200);
        d.set(4, 10);
        d.bus(1, 40, 0, 5, 3, 4);
        C.same("bus", d.best(0), 525 + 50);
        d.drop();
        C.same("drop", d.best(0), 525);
        d.bus(1, 40, 0, 5, 3, 4);
        C.same("bus", d.best(0), 525 + 50);
        d.drop();
        C.same("drop", d.best(0), 525);
        d.clear();
        C.same("clear", d.best(0), 525);
        d.late(0, 3);
        d.were(0, 1);
        d.without(1);
        d.least(1);
        C.same("what was asked meanwhile", d.best(0), 525);
        Checks.tell(d, "price 2 0;");
        C.same("text", d.best(0), 450);
        Checks.tell(d, "slots 4;");
        C.same("no buses", d.best(2), 0);
    }
}

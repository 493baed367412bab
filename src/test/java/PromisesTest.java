import java.util.NoSuchElementException;

/** Promises 1 and 6 to 30, with answers worked out by hand from the document. */
public final class PromisesTest {
    private static final Checks C = new Checks();

    public static void main(String[] args) {
        newObject();
        exampleOfReadme();
        set();
        bus();
        drop();
        chargeAndClear();
        count();
        told();
        curve();
        takes();
        slots();
        planOfTwo();
        wrong();
        best();
        bestByTies();
        bestWithLack();
        late();
        were();
        least();
        leastPowerIsNoHalving();
        without();
        rules();
        ruleOrders();
        ruleLimits();
        C.finish();
    }

    private static void newObject() {
        DepotCharge d = new DepotCharge();
        C.same("NONE", DepotCharge.NONE, -1);
        int[] counts = {4, 0, 0, 1, 20, 40, 0};
        for (int i = 0; i < counts.length; i++) {
            C.same("count " + i, d.count(i), counts[i]);
        }
        for (int s = 0; s < 4; s++) {
            C.same("price", d.count(10 + s), 10);
            C.same("plan", d.plan(s), 0);
            C.same("used", d.used(s), 0);
        }
        for (int what = 0; what <= 4; what++) {
            C.same("sum " + what, d.sum(what), 0);
        }
        for (int what = 0; what < 4; what++) {
            C.same("best " + what, d.best(what), 0);
            C.same("rule", d.rule(3, what), 0);
        }
        C.same("fault", d.fault(), 0);
        C.same("take", d.take(), 0);
        C.same("least plugs", d.least(0), 1);
        C.same("least power", d.least(1), 1);
        C.same("least limit", d.least(2), 1);
        C.same("without", d.without(0), 0);
        C.same("without one", d.without(1), -1);
        C.same("were", d.were(2, 1), 0);
        C.same("bestRule", d.bestRule(), 0);
        C.same("late", d.late(0, 0), -1);
        C.same("latest", d.latest(0), -1);
        C.same("clear", d.clear(), 0);
        C.same("drop", d.drop(), -1);
    }

    private static void exampleOfReadme() {
        DepotCharge d = new DepotCharge();
        C.same("feed", d.feed(0x63757276, 0x65203020, 0x33303b70, 0x6c756773, 0x20323b20), 20);
        C.yes("end", d.end(19));
        C.same("tell", d.tell(), 2);
        C.same("bus", d.bus(0, 100, 0, 50, 0, 4), 0);
        C.same("best", d.best(0), 600);
        C.same("take", d.take(), 3);
        C.same("wrong", d.sum(4), 0);
        C.same("late", d.late(0, 2), -2);
        C.same("least", d.least(1), 13);
        DepotCharge e = new DepotCharge();
        C.same("the text", Checks.tell(e, "slots 6; price 0 5; plugs 2; limit 60; curve 0 30 80 5; bus 0 100 20 80 0 6; charge 0 0;"), 7);
        C.same("charged", e.level(0, 6), 40);
    }

    private static void set() {
        DepotCharge d = new DepotCharge();
        int[] most = {4, 50, 200};
        int[] first = {1, 20, 40};
        for (int what = 0; what < 3; what++) {
            C.no("as it is", d.set(what, first[what]));
            C.no("0", d.set(what, 0));
            C.no("above", d.set(what, most[what] + 1));
            C.yes("most", d.set(what, most[what]));
            C.no("again", d.set(what, most[what]));
            C.same("is so", d.count(3 + what), most[what]);
            C.yes("back", d.set(what, 1));
            C.same("is so", d.count(3 + what), 1);
        }
        C.no("price as it is", d.set(3, 10));
        C.yes("price 0", d.set(3, 0));
        C.yes("price 99", d.set(6, 99));
        C.no("price 100", d.set(6, 100));
        C.no("price below", d.set(6, -1));
        C.no("no slot 4", d.set(7, 5));
        C.no("no what", d.set(-1, 1));
        C.no("no what", d.set(Integer.MIN_VALUE, 1));
        C.no("no what", d.set(Integer.MAX_VALUE, 1));
        C.same("price", d.count(10), 0);
        C.same("price", d.count(13), 99);
    }

    private static void bus() {
        DepotCharge d = new DepotCharge();
        C.same("no curve", d.bus(0, 10, 0, 10, 0, 4), -1);
        Checks.tell(d, "curve 0 5;");
        C.same("curve below", d.bus(-1, 10, 0, 10, 0, 4), -1);
        C.same("curve above", d.bus(1, 10, 0, 10, 0, 4), -1);
        C.same("capacity 0", d.bus(0, 0, 0, 0, 0, 4), -1);
        C.same("capacity 201", d.bus(0, 201, 0, 0, 0, 4), -1);
        C.same("level below", d.bus(0, 10, -1, 0, 0, 4), -1);
        C.same("level above", d.bus(0, 10, 11, 0, 0, 4), -1);
        C.same("need below", d.bus(0, 10, 0, -1, 0, 4), -1);
        C.same("need above", d.bus(0, 10, 0, 11, 0, 4), -1);
        C.same("comes below", d.bus(0, 10, 0, 10, -1, 4), -1);
        C.same("comes as goes", d.bus(0, 10, 0, 10, 2, 2), -1);
        C.same("comes at the end", d.bus(0, 10, 0, 10, 4, 4), -1);
        C.same("goes above", d.bus(0, 10, 0, 10, 0, 5), -1);
        C.same("goes far above", d.bus(0, 10, 0, 10, 0, Integer.MAX_VALUE), -1);
        C.same("none came", d.count(1), 0);
        C.same("first", d.bus(0, 200, 200, 0, 3, 4), 0);
        C.yes("plan", d.charge(2, 0, true));
        C.same("second", d.bus(0, 1, 0, 1, 0, 1), 1);
        C.same("the plan stays", d.plan(2), 1);
        C.same("third", d.bus(0, 10, 0, 10, 0, 4), 2);
        C.same("fourth", d.bus(0, 10, 0, 10, 0, 4), 3);
        C.same("there are 4", d.bus(0, 10, 0, 10, 0, 4), -2);
        C.same("can't be, with 4", d.bus(0, 10, 0, 11, 0, 4), -1);
        C.same("four", d.count(1), 4);
        C.same("capacity", d.told(1, 1), 1);
    }

    private static void drop() {
        DepotCharge d = Checks.depot("curve 0 5; bus 0 10 0 10 0 4; bus 0 20 0 10 0 4; charge 0 0 1; charge 2 1;");
        C.same("one left", d.drop(), 1);
        C.same("out of the plan", d.plan(0), 1);
        C.same("out of the plan", d.plan(2), 0);
        C.same("again", d.bus(0, 30, 0, 10, 0, 4), 1);
        C.same("not in the plan", d.plan(0), 1);
        C.same("capacity", d.told(1, 1), 30);
        C.same("one left", d.drop(), 1);
        C.same("none left", d.drop(), 0);
        C.same("plan", d.sum(2), 0);
        C.same("there is none", d.drop(), -1);
    }

    private static void chargeAndClear() {
        DepotCharge d = Checks.depot("curve 0 5; bus 0 10 0 10 1 2; bus 0 10 0 10 0 4;");
        C.no("not charged, as it is", d.charge(0, 1, false));
        C.yes("charged", d.charge(0, 1, true));
        C.no("charged, as it is", d.charge(0, 1, true));
        C.yes("one that is not there, too", d.charge(3, 0, true));
        C.yes("both", d.charge(3, 1, true));
        C.same("set", d.plan(3), 3);
        C.yes("not charged", d.charge(3, 0, false));
        C.same("set", d.plan(3), 2);
        C.no("slot below", d.charge(-1, 0, true));
        C.no("slot above", d.charge(4, 0, true));
        C.no("bus below", d.charge(0, -1, true));
        C.no("bus above", d.charge(0, 2, true));
        C.no("bus 32", d.charge(0, 32, true));
        C.yes("not there", d.charge(0, 0, true));
        C.same("clear", d.clear(), 3);
        C.same("clear again", d.clear(), 0);
        for (int s = 0; s < 4; s++) {
            C.same("empty", d.plan(s), 0);
        }
    }

    private static void count() {
        DepotCharge d = Checks.depot("slots 2; price 1 7;");
        C.same("price", d.count(11), 7);
        int[] others = {-1, 7, 8, 9, 12, 18, Integer.MIN_VALUE, Integer.MAX_VALUE};
        for (int what : others) {
            C.same("count " + what, d.count(what), -1);
        }
    }

    private static boolean throwsNoSuch(DepotCharge d, int bus, int what) {
        try {
            d.told(bus, what);
            return false;
        } catch (NoSuchElementException e) {
            return true;
        }
    }

    private static void told() {
        DepotCharge d = Checks.depot("curve 0 5; curve 0 6; bus 1 50 7 40 1 3;");
        int[] want = {1, 50, 7, 40, 1, 3};
        for (int what = 0; what < 6; what++) {
            C.same("told " + what, d.told(0, what), want[what]);
        }
        C.yes("what below", throwsNoSuch(d, 0, -1));
        C.yes("what above", throwsNoSuch(d, 0, 6));
        C.yes("bus below", throwsNoSuch(d, -1, 0));
        C.yes("bus above", throwsNoSuch(d, 1, 0));
        C.yes("bus far above", throwsNoSuch(d, Integer.MAX_VALUE, 0));
    }

    private static void curve() {
        DepotCharge d = Checks.depot("curve 0 30 50 20 80 5; curve 0 7;");
        int[] from = {0, 50, 80};
        int[] rate = {30, 20, 5};
        C.same("pieces", d.curve(0, -1, 0), 3);
        C.same("pieces", d.curve(1, -1, 0), 1);
        for (int k = 0; k < 3; k++) {
            C.same("from", d.curve(0, k, 0), from[k]);
            C.same("rate", d.curve(0, k, 1), rate[k]);
            C.same("another what", d.curve(0, k, 2), -1);
            C.same("another what", d.curve(0, k, -1), -1);
        }
        C.same("count has no rate", d.curve(0, -1, 1), -1);
        C.same("no piece", d.curve(0, 3, 0), -1);
        C.same("no piece", d.curve(1, 1, 1), -1);
        C.same("k below", d.curve(0, -2, 0), -1);
        C.same("no curve", d.curve(2, -1, 0), -1);
        C.same("no curve", d.curve(-1, 0, 0), -1);
    }

    private static void takes() {
        // 33 hundredths of 50 are 16.5: a LEVEL of 16 is below, 17 is not.
        DepotCharge d = Checks.depot("power 25; curve 0 30 33 20 90 5; bus 0 50 0 50 0 4;");
        C.same("power", d.takes(0, 0), 25);
        C.same("below the piece", d.takes(0, 16), 25);
        C.same("the piece", d.takes(0, 17), 20);
        C.same("what lacks is more than the rate", d.takes(0, 30), 20);
        C.same("what it lacks", d.takes(0, 31), 19);
        C.same("what it lacks", d.takes(0, 44), 6);
        C.same("last piece at 45", d.takes(0, 45), 5);
        C.same("what it lacks", d.takes(0, 47), 3);
        C.same("full", d.takes(0, 50), 0);
        C.same("above", d.takes(0, 51), -1);
        C.same("below", d.takes(0, -1), -1);
        C.same("no bus", d.takes(1, 0), -1);
        d.set(1, 4);
        C.same("little power", d.takes(0, 45), 4);
    }

    private static void slots() {
        // From 0: 25, 45, 50.
        DepotCharge d = Checks.depot("power 25; curve 0 30 33 20 90 5; bus 0 50 0 50 0 1;");
        C.same("to 50", d.slots(0, 0, 50), 3);
        C.same("to 45", d.slots(0, 0, 45), 2);
        C.same("to 46", d.slots(0, 0, 46), 3);
        C.same("to 1", d.slots(0, 0, 1), 1);
        C.same("as the first", d.slots(0, 20, 20), 0);
        C.same("below the first", d.slots(0, 20, 3), 0);
        C.same("not above the first", d.slots(0, 20, -3), 0);
        C.same("to above", d.slots(0, 20, 51), -1);
        C.same("from above", d.slots(0, 51, 50), -1);
        C.same("from below", d.slots(0, -1, 50), -1);
        C.same("no bus", d.slots(1, 0, 0), -1);
        C.same("many", Checks.depot("power 1; curve 0 50; bus 0 200 0 0 0 1;").slots(0, 0, 200), 200);
    }

    private static void planOfTwo() {
        // BUS 0: 0, 20, 30, 30, 40 of need 45; BUS 1 (there in 1 and 2): 10, 10, 10, 10, 10 then charged in 2.
        DepotCharge d = Checks.depot("plugs 2; price 0 3; price 1 5; price 2 7; price 3 11; curve 0 20 20 10;"
            + "bus 0 100 0 45 0 4; bus 0 100 10 30 1 3; charge 0 0 1; charge 1 0; charge 2 1; charge 3 0 1;");
        int[] levels0 = {0, 20, 30, 30, 40};
        int[] levels1 = {10, 10, 10, 30, 30};
        for (int s = 0; s <= 4; s++) {
            C.same("level 0 at " + s, d.level(0, s), levels0[s]);
            C.same("level 1 at " + s, d.level(1, s), levels1[s]);
        }
        int[] used = {20, 10, 20, 10};
        int[] sets = {3, 1, 2, 3};
        for (int s = 0; s < 4; s++) {
            C.same("used " + s, d.used(s), used[s]);
            C.same("plan " + s, d.plan(s), sets[s]);
        }
        C.same("cost", d.sum(0), 60 + 50 + 140 + 110);
        C.same("peak", d.sum(1), 20);
        C.same("charges", d.sum(2), 6);
        C.same("lack", d.sum(3), 5);
        C.same("wrong", d.sum(4), 1);
        C.same("lack 0", d.lack(0), 5);
        C.same("lack 1", d.lack(1), 0);
        C.same("lack of none", d.lack(2), -1);
        C.same("lack of none", d.lack(-1), -1);
        C.same("sum", d.sum(5), -1);
        C.same("sum", d.sum(-1), -1);
        C.same("plan", d.plan(4), -1);
        C.same("plan", d.plan(-1), -1);
        C.same("used", d.used(4), -1);
        C.same("used", d.used(-1), -1);
        C.same("level", d.level(0, 5), -1);
        C.same("level", d.level(0, -1), -1);
        C.same("level", d.level(2, 0), -1);
        C.same("level", d.level(-1, 0), -1);
    }

    private static void wrong() {
        String two = "curve 0 30; power 30; bus 0 90 0 60 1 4; bus 0 90 0 30 0 3;";
        C.same("lack of 0", Checks.depot(two).sum(4), 4);
        C.same("lack of 1", Checks.depot(two + "charge 1 0; charge 2 0;").sum(4), 4 + 8);
        C.same("right", Checks.depot(two + "charge 0 1; charge 1 0; charge 2 0;").sum(4), 0);
        C.same("above the limit in 1", Checks.depot(two + "plugs 2; charge 1 0 1;").sum(4), 3 + 8);
        C.same("as the limit", Checks.depot(two + "limit 60; plugs 2; charge 1 0 1; charge 2 0;").sum(4), 0);
        C.same("plugs ahead of limit", Checks.depot(two + "charge 1 0 1;").sum(4), 2 + 8);
        C.same("plugs by the least slot", Checks.depot(two + "charge 2 0 1; charge 1 0 1;").sum(4), 2 + 8);
        C.same("not there ahead of plugs", Checks.depot(two + "charge 1 0 1; charge 3 1;").sum(4), 1 + 8 * 3);
        C.same("not there in 0", Checks.depot(two + "charge 0 0; charge 3 1;").sum(4), 1);
        C.same("one not there has its plug", Checks.depot(two + "charge 0 0 1;").sum(4), 1);
    }

    private static void best() {
        // One plug: BUS 0 needs two of 0 to 3 (20, 10), BUS 1 one of 0 and 1 (15).
        DepotCharge d = Checks.depot("price 0 9; price 1 2; price 2 5; price 3 4; curve 0 20 20 10;"
            + "bus 0 100 0 30 0 4; bus 0 100 5 20 0 2;");
        // BUS 1 takes 20 at once (5 to 25). BUS 1 in 1 (40), BUS 0 in 2 and 3 (100 + 40): 180.
        // BUS 1 in 0 (180) is dearer with all others.
        C.same("cost", d.best(0), 180);
        C.same("peak", d.best(1), 20);
        C.same("charges", d.best(2), 3);
        C.same("lack", d.best(3), 0);
        C.same("another", d.best(4), -1);
        C.same("another", d.best(-1), -1);
        C.same("the plan stays", d.sum(2), 0);
        C.yes("a charge of old", d.charge(0, 0, true));
        C.same("take", d.take(), 3);
        int[] sets = {0, 2, 1, 1};
        for (int s = 0; s < 4; s++) {
            C.same("set " + s, d.plan(s), sets[s]);
        }
        C.same("right", d.sum(4), 0);
        C.same("cost of the plan", d.sum(0), 180);
        C.yes("cheaper", d.set(3, 0));
        C.same("best anew", d.best(0), 80);
        C.same("take", d.take(), 3);
        C.same("BUS 0 in 0", d.plan(0), 1);
        C.same("BUS 1 in 1", d.plan(1), 2);
        C.same("dearest", d.plan(2), 0);
        C.same("the rest", d.plan(3), 1);
        C.same("drop", d.drop(), 1);
        C.same("best anew", d.best(0), 0 * 20 + 2 * 10);
        C.same("bus", d.bus(0, 100, 0, 0, 0, 4), 1);
        C.same("no need, no charge", d.best(2), 2);
        C.same("text", Checks.tell(d, "price 0 9;"), 1);
        C.same("best anew", d.best(0), 2 * 20 + 4 * 10);
    }

    private static void bestByTies() {
        // Prices 0: the fewest CHARGES, then the lesser set in the first SLOT.
        DepotCharge d = Checks.depot("price 0 0; price 1 0; price 2 0; price 3 0; plugs 2; curve 0 10;"
            + "bus 0 50 0 15 0 4; bus 0 50 0 20 0 4;");
        C.same("charges", d.best(2), 4);
        C.same("take", d.take(), 4);
        int[] late = {0, 0, 3, 3};
        for (int s = 0; s < 4; s++) {
            C.same("set " + s, d.plan(s), late[s]);
        }
        d.set(0, 1);
        C.same("take", d.take(), 4);
        int[] byOne = {1, 1, 2, 2};
        for (int s = 0; s < 4; s++) {
            C.same("set " + s, d.plan(s), byOne[s]);
        }
        // The last charge takes what is lacking of CAPACITY, so it is dearest first, by PRICE.
        DepotCharge e = Checks.depot("price 0 1; price 1 9; price 2 1; price 3 9; curve 0 20 50 1; bus 0 20 0 11 0 4;");
        C.same("20 and no more", e.best(0), 20);
        C.same("one charge", e.best(2), 1);
        C.same("take", e.take(), 1);
        C.same("of like ones the later", e.plan(0), 0);
        C.same("of like ones the later", e.plan(2), 1);
    }

    private static void bestWithLack() {
        // One plug, two slots; BUS 0 could be charged twice (20 + 10), BUS 1 once (15): 20 and 15 is most.
        DepotCharge d = Checks.depot("slots 2; curve 0 20 20 10; curve 0 15; bus 0 100 0 40 0 2; bus 1 100 0 15 0 1;");
        C.same("lack", d.best(3), 20);
        C.same("cost", d.best(0), 350);
        C.same("take", d.take(), 2);
        C.same("first", d.plan(0), 2);
        C.same("second", d.plan(1), 1);
        C.same("late", d.late(0, 0), -2);
        C.same("latest", d.latest(0), -2);
        C.same("were", d.were(0, 2), -2);
        C.same("least plugs", d.least(0), -1);
        C.same("least power", d.least(1), -1);
        C.same("least limit", d.least(2), -1);
        C.same("without BUS 0", d.without(2), 150);
        C.same("without BUS 1", d.without(1), -2);
        C.same("without both", d.without(0), 0);
        // LIMIT stands against both at once, though there are PLUGS.
        DepotCharge e = Checks.depot("slots 1; plugs 2; limit 34; curve 0 20; curve 0 15; bus 0 100 0 20 0 1; bus 1 100 0 15 0 1;");
        C.same("lack", e.best(3), 15);
        C.same("peak", e.best(1), 20);
        C.same("one more", e.were(2, 35), 350);
        C.same("as it is", e.were(2, 34), -2);
        C.same("least limit", e.least(2), 35);
    }

    private static void late() {
        DepotCharge d = Checks.depot("price 0 1; price 1 2; price 2 3; price 3 4; curve 0 10;"
            + "bus 0 100 0 20 0 4; bus 0 100 0 10 1 3; bus 0 100 10 10 0 1;");
        // BUS 0 in 0 and (1 or 2), BUS 1 in the other: 10 + 20 + 30.
        C.same("0 later", d.late(0, 0), 60);
        C.same("1 later", d.late(0, 1), 20 + 30 + 40);
        C.same("2 later", d.late(0, 2), 20 + 30 + 40);
        C.same("3 later", d.late(0, 3), -2);
        C.same("4 later", d.late(0, 4), -2);
        C.same("8 later", d.late(0, 8), -2);
        C.same("9 later", d.late(0, 9), -1);
        C.same("below", d.late(0, -1), -1);
        C.same("no bus", d.late(3, 0), -1);
        C.same("no bus", d.late(-1, 0), -1);
        C.same("latest 0", d.latest(0), 2);
        C.same("latest 1", d.latest(1), 1);
        C.same("latest without need", d.latest(2), 8);
        C.same("not there in any", d.late(2, 8), 60);
        C.same("no bus", d.latest(3), -1);
        C.same("no bus", d.latest(-1), -1);
        C.same("nothing is changed", d.told(0, 4), 0);
        DepotCharge e = Checks.depot("slots 8; price 7 3; curve 0 10; bus 0 100 0 10 0 8;");
        C.same("in the last slot", e.late(0, 7), 30);
        C.same("not there in any", e.late(0, 8), -2);
        C.same("latest of all slots", e.latest(0), 7);
        C.same("nothing is changed", d.best(0), 60);
    }

    private static void were() {
        DepotCharge d = Checks.depot("price 0 1; price 1 2; price 2 3; price 3 4; curve 0 10; limit 10;"
            + "bus 0 100 0 20 0 4; bus 0 100 0 20 0 4;");
        C.same("best", d.best(0), 100);
        C.same("two plugs, limit 10", d.were(0, 2), 100);
        C.same("limit 20, one plug", d.were(2, 20), 100);
        C.same("as it is", d.were(0, 1), 100);
        C.same("little power", d.were(1, 9), -2);
        C.same("power 10", d.were(1, 10), 100);
        C.same("power 50", d.were(1, 50), 100);
        C.same("limit 9", d.were(2, 9), -2);
        C.same("limit 200", d.were(2, 200), 100);
        C.yes("limit", d.set(2, 20));
        C.same("two plugs, limit 20", d.were(0, 2), 60);
        C.same("four plugs", d.were(0, 4), 60);
        int[][] none = {{0, 0}, {0, 5}, {1, 0}, {1, 51}, {2, 0}, {2, 201}, {3, 1}, {-1, 1}, {3, 10}};
        for (int[] pair : none) {
            C.same("were " + pair[0] + " " + pair[1], d.were(pair[0], pair[1]), -1);
        }
        C.same("nothing is changed", d.count(3), 1);
        C.same("nothing is changed", d.best(0), 100);
    }

    private static void least() {
        DepotCharge d = Checks.depot("slots 3; plugs 4; curve 0 30; limit 100;"
            + "bus 0 100 0 50 0 2; bus 0 100 0 50 0 2; bus 0 100 0 25 1 3;");
        // Each SLOT 0 and 1: two of them; SLOT 2: the third. With 20 a BUS would need three.
        C.same("power 20 is too little", d.least(0), -1);
        C.same("least power", d.least(1), 25);
        C.yes("power", d.set(1, 30));
        C.same("least plugs", d.least(0), 2);
        C.same("least limit", d.least(2), 60);
        C.same("another", d.least(3), -1);
        C.same("another", d.least(-1), -1);
        C.same("nothing is changed", d.count(4), 30);
        C.same("nothing is changed", d.count(3), 4);
        C.same("nothing is changed", d.count(5), 100);
        Checks.tell(d, "limit 59;");
        C.same("least power by the limit", d.least(1), 25);
        C.same("power 29", d.were(1, 29), 10 * (29 * 4 + 29));
        C.same("power 30", d.were(1, 30), -2);
        C.same("no plugs do", d.least(0), -1);
    }

    private static void leastPowerIsNoHalving() {
        // From half of it on it takes 1. 24: 24, 48, 72. 25: 25, 50, 51. 35: 35, 70, 71. 36: 36, 72, 73. 37: 37, 74.
        DepotCharge d = Checks.depot("slots 3; limit 200; curve 0 50 50 1; bus 0 100 0 73 0 3;");
        C.same("24", d.were(1, 24), -2);
        C.same("25", d.were(1, 25), -2);
        C.same("35", d.were(1, 35), -2);
        C.same("36", d.were(1, 36), 730);
        C.same("37", d.were(1, 37), 740);
        C.same("49", d.were(1, 49), 980);
        C.same("50", d.were(1, 50), -2);
        C.same("least", d.least(1), 36);
        C.yes("power", d.set(1, 50));
        C.same("best has lack", d.best(3), 73 - 52);
    }

    private static void without() {
        DepotCharge d = Checks.depot("slots 2; price 0 1; price 1 2; curve 0 10;"
            + "bus 0 100 0 10 0 2; bus 0 100 0 10 0 2; bus 0 100 0 10 1 2;");
        C.same("all", d.without(7), -2);
        C.same("0 and 1", d.without(3), 30);
        C.same("0 and 2", d.without(5), 30);
        C.same("2", d.without(4), 20);
        C.same("0", d.without(1), 10);
        C.same("nobody", d.without(0), 0);
        C.same("one that is not", d.without(8), -1);
        C.same("below", d.without(-1), -1);
        C.same("far above", d.without(Integer.MAX_VALUE), -1);
        C.same("far below", d.without(Integer.MIN_VALUE), -1);
    }

    private static void rules() {
        DepotCharge d = Checks.depot("price 0 5; price 1 4; price 2 3; price 3 2; curve 0 10;"
            + "bus 0 100 0 20 0 4; bus 0 100 0 20 0 2;");
        // By numbers: 0 0 1(gone): BUS 1 has nothing.
        int[] byNumber = {1, 1, 0, 0};
        int[] byGoes = {2, 2, 1, 1};
        for (int s = 0; s < 4; s++) {
            C.same("rule 0, " + s, d.rule(0, 10 + s), byNumber[s]);
            C.same("rule 1, " + s, d.rule(1, 10 + s), byGoes[s]);
            C.same("rule 3, " + s, d.rule(3, 10 + s), byGoes[s]);
        }
        C.same("cost", d.rule(0, 0), 90);
        C.same("peak", d.rule(0, 1), 10);
        C.same("charges", d.rule(0, 2), 2);
        C.same("lack", d.rule(0, 3), 20);
        C.same("cost", d.rule(1, 0), 140);
        C.same("lack", d.rule(1, 3), 0);
        int[] others = {4, 5, 9, 14, -1, Integer.MIN_VALUE, Integer.MAX_VALUE};
        for (int what : others) {
            C.same("what " + what, d.rule(0, what), -1);
        }
        C.same("no rule", d.rule(4, 0), -1);
        C.same("no rule", d.rule(-1, 0), -1);
        C.same("best rule", d.bestRule(), 1);
        C.same("no rule", d.takeRule(4), -1);
        C.same("no rule", d.takeRule(-1), -1);
        C.yes("of old", d.charge(2, 1, true));
        C.same("not taken", d.plan(2), 2);
        C.same("take", d.takeRule(1), 4);
        for (int s = 0; s < 4; s++) {
            C.same("plan " + s, d.plan(s), byGoes[s]);
        }
        C.same("right", d.sum(4), 0);
        // Lack falls the same by 0 and 2 here; the cheaper one wins.
        DepotCharge e = Checks.depot("slots 2; price 0 1; price 1 9; curve 0 10; curve 0 5;"
            + "bus 1 100 0 5 0 2; bus 0 100 0 10 0 2;");
        C.same("dear", e.rule(0, 0), 5 + 90);
        C.same("cheap", e.rule(2, 0), 10 + 45);
        C.same("by lack", e.bestRule(), 2);
    }

    private static void ruleOrders() {
        // Lacks 20, 30, 30: of like ones the least number; after a charge of 20 it is BUS 2's turn.
        DepotCharge d = Checks.depot("slots 5; curve 0 20; bus 0 100 0 20 0 5; bus 0 100 10 40 0 5; bus 0 100 5 35 0 5;");
        int[] byLack = {2, 4, 1, 2, 4};
        for (int s = 0; s < 5; s++) {
            C.same("rule 2, " + s, d.rule(2, 10 + s), byLack[s]);
        }
        // SPARE: BUS 0 5 - 1, BUS 1 4 - 3, BUS 2 4 - 3 at first.
        DepotCharge e = Checks.depot("slots 5; curve 0 20; curve 0 10; bus 0 100 0 20 0 5; bus 1 100 0 25 0 4; bus 1 100 0 25 0 4;");
        // Slot 0: 4, 1, 1 -> 1; slot 1: 3, 3-2, 3-3 -> 2; slot 2: 2, 2-2, 2-2 -> 1; slot 3: 1, 1-1, 1-2 -> 2; slot 4: 0.
        int[] bySpare = {2, 4, 2, 4, 1};
        for (int s = 0; s < 5; s++) {
            C.same("rule 3, " + s, e.rule(3, 10 + s), bySpare[s]);
        }
    }

    private static void ruleLimits() {
        // BUS 1 would go above the LIMIT and is passed over, its PLUG goes to BUS 2.
        DepotCharge d = Checks.depot("slots 2; plugs 2; limit 25; curve 0 15; curve 0 11; curve 0 10;"
            + "bus 0 100 0 15 0 2; bus 1 100 0 11 0 2; bus 2 100 0 20 0 2;");
        C.same("first", d.rule(0, 10), 5);
        C.same("second", d.rule(0, 11), 6);
        C.same("peak", d.rule(0, 1), 25);
        C.same("lack", d.rule(0, 3), 0);
        C.same("no charge with need", Checks.depot("curve 0 9; bus 0 100 50 50 0 4;").rule(2, 2), 0);
        C.same("nothing below the limit", Checks.depot("limit 8; curve 0 9; bus 0 100 50 80 0 4;").rule(1, 2), 0);
        C.same("not ahead of coming", Checks.depot("curve 0 9; bus 0 100 0 90 2 3;").rule(1, 2), 1);
    }
}

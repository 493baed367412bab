/** Terms 1 and 2: each sentence that names an edge has a test of its own. */
public final class EdgesOfTermsTest {
    private static final Checks C = new Checks();
    private static final String CURVE = "curve 0 50;";

    public static void main(String[] args) {
        slotsOneToEight();
        pricesTo99();
        settingsFromLeastToMost();
        curvesAtMostFour();
        piecesOneToFour();
        fromRisesTo100();
        ratesOneTo50();
        busesAtMostFour();
        busNumbers();
        thereFromComesToGoes();
        takesThePower();
        takesWhatLacks();
        takesTheRateOfTheLastPiece();
        levelsGoOn();
        usedOfThoseThere();
        costPeakCharges();
        lackBehindTheLastSlot();
        wrongByOneThatIsNotThere();
        wrongByPlugs();
        wrongByLimit();
        wrongByLack();
        wrongByTheFirstKind();
        bestHasTheLeastLack();
        bestHasTheLeastCost();
        bestHasTheFewestCharges();
        bestHasTheLesserSet();
        bestIsNotWrong();
        ruleChargesBelowNeed();
        ruleKeepsPlugs();
        rulePassesOverLimit();
        ruleByNumbers();
        ruleByGoes();
        ruleByLack();
        ruleBySpare();
        C.finish();
    }

    private static void fits(String text) {
        DepotCharge d = new DepotCharge();
        C.yes("fits: " + text, Checks.tell(d, text) > 0);
        C.same("no fault: " + text, d.fault(), 0);
    }

    /** A text whose last STATEMENT has a FAULT, told by its place in that one. */
    private static void faulty(String first, String last, int kind, int place) {
        DepotCharge d = Checks.depot(first);
        Checks.feed(d, last);
        C.same("refused: " + last, d.tell(), -1);
        C.same("fault: " + last, d.fault(), kind + 8 * place);
    }

    private static void plan(String label, DepotCharge d, int... sets) {
        for (int s = 0; s < sets.length; s++) {
            C.same(label + ", slot " + s, d.plan(s), sets[s]);
        }
    }

    private static void rule(String label, DepotCharge d, int rule, int... sets) {
        for (int s = 0; s < sets.length; s++) {
            C.same(label + ", slot " + s, d.rule(rule, 10 + s), sets[s]);
        }
        C.same(label + ", no slot more", d.rule(rule, 10 + sets.length), -1);
    }

    // ---- 1

    private static void slotsOneToEight() {
        C.same("4 at first", new DepotCharge().count(0), 4);
        DepotCharge one = Checks.depot("slots 1;");
        C.same("1", one.count(0), 1);
        C.same("slot 0", one.plan(0), 0);
        C.same("no slot 1", one.plan(1), -1);
        DepotCharge eight = Checks.depot("slots 8;");
        C.same("8", eight.count(0), 8);
        C.same("slot 7", eight.plan(7), 0);
        C.same("no slot 8", eight.plan(8), -1);
        faulty("", "slots 0;", 2, 6);
        faulty("", "slots 9;", 2, 6);
    }

    private static void pricesTo99() {
        DepotCharge d = Checks.depot("slots 8;");
        for (int s = 0; s < 8; s++) {
            C.same("10 at first", d.count(10 + s), 10);
        }
        fits("price 0 0;");
        fits("price 3 99;");
        faulty("", "price 3 100;", 2, 8);
        faulty("", "price 4 10;", 2, 6);
        faulty("slots 1;", "price 1 10;", 2, 6);
        fits("slots 8; price 7 10;");
        faulty("slots 8;", "price 8 10;", 2, 6);
    }

    private static void settingsFromLeastToMost() {
        String[] words = {"plugs ", "power ", "limit "};
        int[] most = {4, 50, 200};
        int[] first = {1, 20, 40};
        for (int i = 0; i < 3; i++) {
            C.same(words[i] + "at first", new DepotCharge().count(3 + i), first[i]);
            C.same(words[i] + "1", Checks.depot(words[i] + "1;").count(3 + i), 1);
            C.same(words[i] + most[i], Checks.depot(words[i] + most[i] + ";").count(3 + i), most[i]);
            faulty("", words[i] + "0;", 2, 6);
            faulty("", words[i] + (most[i] + 1) + ";", 2, 6);
        }
    }

    private static void curvesAtMostFour() {
        DepotCharge d = Checks.depot("curve 0 1; curve 0 2; curve 0 3; curve 0 4;");
        C.same("four", d.count(2), 4);
        for (int c = 0; c < 4; c++) {
            C.same("numbered from 0 on", d.curve(c, 0, 1), c + 1);
        }
        C.same("a fifth", Checks.tell(d, "curve 0 5;"), -1);
        C.same("one too many at its word", d.fault(), 4);
        C.same("still four", d.count(2), 4);
    }

    private static void piecesOneToFour() {
        C.same("one", Checks.depot("curve 0 9;").curve(0, -1, 0), 1);
        C.same("four", Checks.depot("curve 0 9 1 8 2 7 3 6;").curve(0, -1, 0), 4);
        faulty("", "curve;", 1, 5);
        faulty("", "curve 0 9 1 8 2 7 3 6 4 5;", 4, 22);
    }

    private static void fromRisesTo100() {
        faulty("", "curve 1 9;", 2, 6);
        fits("curve 0 9 1 9;");
        faulty("", "curve 0 9 0 9;", 2, 10);
        fits("curve 0 9 50 9 51 9;");
        faulty("", "curve 0 9 50 9 50 9;", 2, 15);
        faulty("", "curve 0 9 50 9 49 9;", 2, 15);
        fits("curve 0 9 100 9;");
        faulty("", "curve 0 9 101 9;", 2, 10);
        faulty("", "curve 0 9 100 9 101 9;", 2, 16);
    }

    private static void ratesOneTo50() {
        C.same("1", Checks.depot("curve 0 1;").curve(0, 0, 1), 1);
        C.same("50", Checks.depot("curve 0 50;").curve(0, 0, 1), 50);
        faulty("", "curve 0 0;", 2, 8);
        faulty("", "curve 0 51;", 2, 8);
        faulty("", "curve 0 9 50 0;", 2, 13);
        faulty("", "curve 0 9 50 51;", 2, 13);
    }

    private static void busesAtMostFour() {
        DepotCharge d = Checks.depot(CURVE + "bus 0 11 0 0 0 4; bus 0 12 0 0 0 4; bus 0 13 0 0 0 4; bus 0 14 0 0 0 4;");
        C.same("four", d.count(1), 4);
        for (int b = 0; b < 4; b++) {
            C.same("numbered from 0 on", d.told(b, 1), 11 + b);
        }
        C.same("a fifth", Checks.tell(d, "bus 0 15 0 0 0 4;"), -1);
        C.same("one too many at its word", d.fault(), 4);
        C.same("still four", d.count(1), 4);
    }

    private static void busNumbers() {
        fits(CURVE + "bus 0 1 0 0 0 1;");
        fits(CURVE + "bus 0 1 1 1 3 4;");
        fits(CURVE + "bus 0 200 200 200 0 4;");
        fits(CURVE + CURVE + CURVE + CURVE + "bus 3 5 0 0 0 4;");
        faulty("", "bus 0 5 0 0 0 4;", 2, 4);
        faulty(CURVE, "bus 1 5 0 0 0 4;", 2, 4);
        faulty(CURVE, "bus 0 0 0 0 0 4;", 2, 6);
        faulty(CURVE, "bus 0 201 0 0 0 4;", 2, 6);
        faulty(CURVE, "bus 0 5 6 0 0 4;", 2, 8);
        faulty(CURVE, "bus 0 5 0 6 0 4;", 2, 10);
        faulty(CURVE, "bus 0 5 0 0 4 4;", 2, 12);
        faulty(CURVE, "bus 0 5 0 0 5 4;", 2, 12);
        faulty(CURVE, "bus 0 5 0 0 0 0;", 2, 14);
        faulty(CURVE, "bus 0 5 0 0 3 3;", 2, 14);
        faulty(CURVE, "bus 0 5 0 0 3 2;", 2, 14);
        faulty(CURVE, "bus 0 5 0 0 3 5;", 2, 14);
        fits(CURVE + "slots 8; bus 0 5 0 0 7 8;");
        faulty(CURVE + "slots 8;", "bus 0 5 0 0 7 9;", 2, 14);
        fits(CURVE + "slots 1; bus 0 5 0 0 0 1;");
        faulty(CURVE + "slots 1;", "bus 0 5 0 0 0 2;", 2, 14);
    }

    private static void thereFromComesToGoes() {
        DepotCharge d = Checks.depot(CURVE + "bus 0 100 0 0 1 3; charge 0 0; charge 1 0; charge 2 0; charge 3 0;");
        int[] levels = {0, 0, 20, 40, 40};
        for (int s = 0; s <= 4; s++) {
            C.same("level at " + s, d.level(0, s), levels[s]);
        }
    }

    private static void takesThePower() {
        DepotCharge d = Checks.depot("curve 0 20; bus 0 200 0 0 0 4;");
        C.same("as the rate", d.takes(0, 0), 20);
        d.set(1, 19);
        C.same("below the rate", d.takes(0, 0), 19);
        d.set(1, 21);
        C.same("above the rate", d.takes(0, 0), 20);
        d.set(1, 1);
        C.same("least power", d.takes(0, 199), 1);
    }

    private static void takesWhatLacks() {
        DepotCharge d = Checks.depot(CURVE + "bus 0 100 0 0 0 4;");
        C.same("20 lack", d.takes(0, 80), 20);
        C.same("19 lack", d.takes(0, 81), 19);
        C.same("21 lack", d.takes(0, 79), 20);
        C.same("1 lacks", d.takes(0, 99), 1);
        C.same("full", d.takes(0, 100), 0);
    }

    private static void takesTheRateOfTheLastPiece() {
        DepotCharge whole = Checks.depot("curve 0 9 50 8; bus 0 50 0 0 0 4;");
        C.same("24 is below 25", whole.takes(0, 24), 9);
        C.same("25 is no less", whole.takes(0, 25), 8);
        DepotCharge broken = Checks.depot("curve 0 9 33 8; bus 0 50 0 0 0 4;");
        C.same("16 is below 16.5", broken.takes(0, 16), 9);
        C.same("17 is no less", broken.takes(0, 17), 8);
        DepotCharge small = Checks.depot("curve 0 9 1 8 99 7; bus 0 1 0 0 0 4; bus 0 2 0 0 0 4; bus 0 200 0 0 0 4;");
        C.same("0 is below 0.01", small.takes(0, 0), 1);
        C.same("1 is below 1.98", small.takes(1, 1), 1);
        C.same("1 is below 2", small.takes(2, 1), 9);
        C.same("2 is no less", small.takes(2, 2), 8);
        C.same("191 is below 198", small.takes(2, 191), 8);
        DepotCharge close = Checks.depot("power 50; curve 0 9 1 8 2 7 3 6; bus 0 10 0 0 0 4; bus 0 100 0 0 0 4;");
        C.same("0 of 10", close.takes(0, 0), 9);
        C.same("1 of 10 is behind all of them", close.takes(0, 1), 6);
        for (int level = 0; level < 4; level++) {
            C.same("by its piece " + level, close.takes(1, level), 9 - level);
        }
        DepotCharge rising = Checks.depot("curve 0 3 50 12; bus 0 100 0 0 0 4;");
        C.same("less at first", rising.takes(0, 49), 3);
        C.same("then more", rising.takes(0, 50), 12);
        DepotCharge end = Checks.depot("curve 0 9 100 1; bus 0 100 0 0 0 4;");
        C.same("100 is behind 99", end.takes(0, 91), 9);
        C.same("full", end.takes(0, 100), 0);
    }

    // ---- 2

    private static void levelsGoOn() {
        // 0, 20 (power), 40, 48 (piece), 50 (full), 50
        DepotCharge d = Checks.depot("slots 6; curve 0 30 80 8; bus 0 50 0 50 0 6;"
            + "charge 0 0; charge 1 0; charge 2 0; charge 3 0; charge 4 0; charge 5 0;");
        int[] levels = {0, 20, 40, 48, 50, 50, 50};
        for (int s = 0; s <= 6; s++) {
            C.same("level at " + s, d.level(0, s), levels[s]);
        }
        C.yes("not in slot 1", d.charge(1, 0, false));
        int[] less = {0, 20, 20, 40, 48, 50, 50};
        for (int s = 0; s <= 6; s++) {
            C.same("level at " + s, d.level(0, s), less[s]);
        }
    }

    private static void usedOfThoseThere() {
        DepotCharge d = Checks.depot("plugs 2; curve 0 10; bus 0 90 0 0 1 3; bus 0 90 85 0 0 4;"
            + "charge 0 0 1; charge 1 0 1; charge 2 0; charge 3 0;");
        int[] used = {5, 10, 10, 0};
        for (int s = 0; s < 4; s++) {
            C.same("used in " + s, d.used(s), used[s]);
        }
    }

    private static void costPeakCharges() {
        DepotCharge d = Checks.depot("plugs 2; price 0 0; price 1 99; curve 0 7; bus 0 90 0 0 0 4; bus 0 90 0 0 1 2;"
            + "charge 0 0; charge 1 0 1; charge 2 1;");
        C.same("a price of 0, one of 99, one not there", d.sum(0), 14 * 99);
        C.same("greatest", d.sum(1), 14);
        C.same("those not there, too", d.sum(2), 4);
        DepotCharge empty = Checks.depot("curve 0 7; bus 0 90 0 0 0 4;");
        for (int what = 0; what < 3; what++) {
            C.same("empty plan", empty.sum(what), 0);
        }
        DepotCharge most = Checks.depot("slots 8; plugs 4; power 50; curve 0 50; bus 0 200 0 0 0 8; bus 0 200 0 0 0 8;"
            + "bus 0 200 0 0 0 8; bus 0 200 0 0 0 8; charge 0 0 1 2 3; charge 1 0 1 2 3; charge 2 0 1 2 3; charge 3 0 1 2 3;"
            + "charge 4 0 1 2 3; charge 5 0 1 2 3; charge 6 0 1 2 3; charge 7 0 1 2 3;");
        for (int s = 0; s < 8; s++) {
            most.set(3 + s, 99);
        }
        C.same("the most that is", most.sum(0), 800 * 99);
        C.same("the most that is", most.sum(1), 200);
        C.same("the most that is", most.sum(2), 32);
    }

    private static void lackBehindTheLastSlot() {
        DepotCharge d = Checks.depot("curve 0 10; bus 0 90 0 10 0 2; bus 0 90 0 11 0 2; bus 0 90 0 9 0 2; bus 0 90 50 40 0 2;"
            + "charge 1 0 1 2;");
        C.same("as need", d.lack(0), 0);
        C.same("one less", d.lack(1), 1);
        C.same("one more", d.lack(2), 0);
        C.same("more at first", d.lack(3), 0);
        C.same("together", d.sum(3), 1);
        DepotCharge gone = Checks.depot("curve 0 10; bus 0 90 0 10 0 2; charge 2 0;");
        C.same("charged when it has gone", gone.lack(0), 10);
        DepotCharge late = Checks.depot("curve 0 10; bus 0 90 0 10 2 4; charge 1 0;");
        C.same("charged ahead of coming", late.lack(0), 10);
    }

    private static void wrongByOneThatIsNotThere() {
        String two = "slots 8; plugs 4;" + CURVE + "bus 0 90 0 0 2 6; bus 0 90 0 0 0 8;";
        C.same("right", Checks.depot(two + "charge 2 0 1; charge 5 0 1;").sum(4), 0);
        C.same("ahead of coming", Checks.depot(two + "charge 1 0;").sum(4), 1 + 8);
        C.same("gone", Checks.depot(two + "charge 6 0;").sum(4), 1 + 8 * 6);
        C.same("slot 0", Checks.depot(two + "charge 0 0; charge 1 0;").sum(4), 1);
        C.same("slot 7", Checks.depot(two + "charge 7 0 1;").sum(4), 1 + 8 * 7);
    }

    private static void wrongByPlugs() {
        String four = "slots 8; limit 200;" + CURVE + "bus 0 90 0 0 0 8; bus 0 90 0 0 0 8; bus 0 90 0 0 0 8; bus 0 90 0 0 0 8;";
        C.same("as many", Checks.depot(four + "plugs 3; charge 0 0 1 3;").sum(4), 0);
        C.same("one more", Checks.depot(four + "plugs 2; charge 0 0 1 3;").sum(4), 2);
        C.same("four of four", Checks.depot(four + "plugs 4; charge 7 0 1 2 3;").sum(4), 0);
        C.same("four of three", Checks.depot(four + "plugs 3; charge 7 0 1 2 3;").sum(4), 2 + 8 * 7);
        C.same("the least slot", Checks.depot(four + "charge 5 0 1; charge 3 2 3;").sum(4), 2 + 8 * 3);
        C.same("full ones, too", Checks.depot("curve 0 9; bus 0 9 9 0 0 4; bus 0 9 9 0 0 4; charge 2 0 1;").sum(4), 2 + 8 * 2);
    }

    private static void wrongByLimit() {
        String two = "slots 8; plugs 2; curve 0 20; bus 0 90 0 0 0 8; bus 0 90 0 0 0 8; charge 7 0 1; charge 4 0 1; charge 1 0;";
        C.same("as the limit", Checks.depot(two + "limit 40;").sum(4), 0);
        C.same("one above, the least slot", Checks.depot(two + "limit 39;").sum(4), 3 + 8 * 4);
        C.same("one above in the first", Checks.depot(two + "limit 19;").sum(4), 3 + 8);
        C.same("slot 0", Checks.depot(two + "limit 19; charge 0 1;").sum(4), 3);
    }

    private static void wrongByLack() {
        String four = CURVE + "plugs 4; bus 0 90 9 9 0 4; bus 0 90 10 9 0 4; bus 0 90 9 9 0 4;";
        C.same("none", Checks.depot(four).sum(4), 0);
        C.same("bus 3", Checks.depot(four + "bus 0 90 8 9 0 4;").sum(4), 4 + 8 * 3);
        C.same("bus 0 of two", Checks.depot(CURVE + "bus 0 90 8 9 0 4; bus 0 90 8 9 0 4;").sum(4), 4);
        C.same("no bus", new DepotCharge().sum(4), 0);
    }

    private static void wrongByTheFirstKind() {
        // Slot 3: not there; slot 2: two at one plug; slot 1: above the limit; a lack of both.
        String all = "limit 19; curve 0 20; bus 0 90 0 90 0 3; bus 0 90 0 90 0 4;";
        C.same("1 ahead of 2", Checks.depot(all + "charge 3 0; charge 2 0 1; charge 1 0;").sum(4), 1 + 8 * 3);
        C.same("2 ahead of 3", Checks.depot(all + "charge 2 0 1; charge 1 0;").sum(4), 2 + 8 * 2);
        C.same("3 ahead of 4", Checks.depot(all + "charge 1 0;").sum(4), 3 + 8);
        C.same("4", Checks.depot(all).sum(4), 4);
    }

    private static void bestHasTheLeastLack() {
        DepotCharge dear = Checks.depot("slots 1; price 0 99; curve 0 10; bus 0 90 0 1 0 1;");
        C.same("ahead of cost", dear.best(0), 990);
        C.same("no lack", dear.best(3), 0);
        // Set 1: 0 + 50. Set 2: 10 + 39.
        DepotCharge together = Checks.depot("slots 1; curve 0 10; curve 0 11; bus 0 90 0 10 0 1; bus 1 90 0 50 0 1;");
        C.same("of all together", together.best(3), 49);
        together.take();
        plan("of all together", together, 2);
        // Set 1 takes 20, but 10 of them alone are lacking; set 2 takes 11 that are.
        DepotCharge above = Checks.depot("slots 1; curve 0 20; curve 0 11; bus 0 90 0 10 0 1; bus 1 90 0 11 0 1;");
        C.same("what is above need is none", above.best(3), 10);
        above.take();
        plan("what is above need is none", above, 2);
    }

    private static void bestHasTheLeastCost() {
        DepotCharge d = Checks.depot("price 0 9; price 1 8; price 2 9; price 3 9; curve 0 10; bus 0 90 0 5 0 4;");
        C.same("the cheap slot", d.best(0), 80);
        d.take();
        plan("the cheap slot", d, 0, 1, 0, 0);
        // 20, then 1: the dear slot may have the little charge alone if it is the later one.
        DepotCharge order = Checks.depot("slots 3; price 0 9; price 1 1; price 2 8; curve 0 20 20 1; bus 0 100 0 21 0 3;");
        C.same("20 at 1, 1 at 8", order.best(0), 28);
        order.take();
        plan("20 at 1, 1 at 8", order, 0, 1, 1);
        // One of two in one slot at LACK: the cheaper of like LACK.
        DepotCharge lacking = Checks.depot("slots 1; curve 0 20; curve 0 10; bus 0 90 85 90 0 1; bus 0 90 0 5 0 1;");
        C.same("5 of like lack for 5, not for 20", lacking.best(0), 50);
        C.same("lack", lacking.best(3), 5);
        lacking.take();
        plan("of like lack", lacking, 1);
    }

    private static void bestHasTheFewestCharges() {
        // Above LIMIT 20 nothing: set 4 (20 at once) or set 3 (10 and 10), of like LACK and COST.
        DepotCharge d = Checks.depot("slots 1; plugs 2; limit 20; curve 0 10; curve 0 20;"
            + "bus 0 90 0 10 0 1; bus 0 90 0 10 0 1; bus 1 90 0 20 0 1;");
        C.same("lack", d.best(3), 20);
        C.same("cost", d.best(0), 200);
        C.same("one charge", d.best(2), 1);
        d.take();
        plan("ahead of the lesser set", d, 4);
        DepotCharge free = Checks.depot("price 0 0; price 1 0; price 2 0; price 3 0; curve 0 10; bus 0 90 0 10 0 4;");
        C.same("free ones are charges, too", free.best(2), 1);
        DepotCharge none = Checks.depot("price 0 0; curve 0 10; bus 0 90 10 10 0 4; bus 0 90 90 0 0 4;");
        C.same("none without need", none.best(2), 0);
    }

    private static void bestHasTheLesserSet() {
        DepotCharge one = Checks.depot("curve 0 10; bus 0 90 0 10 0 4;");
        one.take();
        plan("nobody at first", one, 0, 0, 0, 1);
        DepotCharge two = Checks.depot("slots 3; curve 0 10; bus 0 90 0 10 0 3; bus 0 90 0 10 0 3;");
        two.take();
        plan("0, 1, 2 of all orders", two, 0, 1, 2);
        DepotCharge pairs = Checks.depot("slots 2; plugs 2; limit 20; curve 0 10;"
            + "bus 0 90 0 10 0 2; bus 0 90 0 10 0 2; bus 0 90 0 10 0 2; bus 0 90 0 10 0 2;");
        pairs.take();
        plan("3 is the least of the pairs", pairs, 3, 12);
        DepotCharge three = Checks.depot("slots 2; plugs 2; limit 20; curve 0 10;"
            + "bus 0 90 0 10 0 2; bus 0 90 0 10 0 2; bus 0 90 0 10 0 2;");
        three.take();
        plan("one at first, two then", three, 1, 6);
    }

    private static void bestIsNotWrong() {
        DepotCharge gone = Checks.depot("price 0 9; price 1 9; price 2 1; price 3 1; curve 0 10; bus 0 90 0 10 0 2;");
        C.same("not there in the cheap slots", gone.best(0), 90);
        DepotCharge come = Checks.depot("price 0 1; price 1 9; curve 0 10; slots 4; price 0 1; bus 0 90 0 10 1 2;");
        C.same("not there in the cheap slot", come.best(0), 100);
        DepotCharge plugs = Checks.depot("slots 1; plugs 3; limit 200; curve 0 10;"
            + "bus 0 90 0 10 0 1; bus 0 90 0 10 0 1; bus 0 90 0 10 0 1; bus 0 90 0 10 0 1;");
        C.same("three of four", plugs.best(3), 10);
        plugs.take();
        plan("the least set of three", plugs, 7);
        DepotCharge limit = Checks.depot("slots 1; plugs 2; limit 19; curve 0 10; bus 0 90 0 10 0 1; bus 0 90 0 10 0 1;");
        C.same("one above the limit", limit.best(3), 10);
        C.yes("as the limit", limit.set(2, 20));
        C.same("as the limit", limit.best(3), 0);
        DepotCharge never = Checks.depot("limit 9; curve 0 10; bus 0 90 0 10 0 4;");
        C.same("one alone is above the limit", never.best(3), 10);
        C.same("nothing can be charged", never.best(2), 0);
    }

    private static void ruleChargesBelowNeed() {
        for (int r = 0; r < 4; r++) {
            rule("as need", Checks.depot("curve 0 9; bus 0 90 50 50 0 4;"), r, 0, 0, 0, 0);
            rule("above need", Checks.depot("curve 0 9; bus 0 90 51 50 0 4;"), r, 0, 0, 0, 0);
            rule("one below", Checks.depot("curve 0 9; bus 0 90 49 50 0 4;"), r, 1, 0, 0, 0);
            rule("where it is there", Checks.depot("curve 0 9; bus 0 90 0 90 1 3;"), r, 0, 1, 1, 0);
            rule("till it has need", Checks.depot("curve 0 9; bus 0 90 0 18 0 4;"), r, 1, 1, 0, 0);
            rule("one more", Checks.depot("curve 0 9; bus 0 90 0 19 0 4;"), r, 1, 1, 1, 0);
            rule("no buses", new DepotCharge(), r, 0, 0, 0, 0);
        }
    }

    private static void ruleKeepsPlugs() {
        String four = "slots 3; limit 200; curve 0 9; bus 0 90 0 9 0 3; bus 0 90 0 9 0 3; bus 0 90 0 9 0 3; bus 0 90 0 9 0 3;";
        for (int r = 0; r < 4; r++) {
            rule("one plug", Checks.depot(four), r, 1, 2, 4);
            rule("two plugs", Checks.depot(four + "plugs 2;"), r, 3, 12, 0);
            rule("three plugs", Checks.depot(four + "plugs 3;"), r, 7, 8, 0);
            rule("four plugs", Checks.depot(four + "plugs 4;"), r, 15, 0, 0);
        }
    }

    private static void rulePassesOverLimit() {
        String three = "slots 2; plugs 2; curve 0 15; curve 0 11; curve 0 10;"
            + "bus 0 90 0 15 0 2; bus 1 90 0 11 0 2; bus 2 90 0 10 0 2;";
        rule("as the limit", Checks.depot(three + "limit 26;"), 0, 3, 4);
        rule("one above is passed over", Checks.depot(three + "limit 25;"), 0, 5, 2);
        rule("two are passed over", Checks.depot(three + "limit 24;"), 0, 1, 6);
        rule("the first is passed over", Checks.depot(three + "limit 14;"), 0, 2, 4);
        rule("all are passed over", Checks.depot(three + "limit 9;"), 0, 0, 0);
    }

    private static void ruleByNumbers() {
        rule("whatever else", Checks.depot("curve 0 10; bus 0 90 0 20 0 4; bus 0 90 0 80 0 2;"), 0, 1, 1, 0, 0);
    }

    private static void ruleByGoes() {
        rule("least first", Checks.depot("curve 0 10; bus 0 90 0 20 0 4; bus 0 90 0 10 0 3; bus 0 90 0 10 0 2;"), 1, 4, 2, 1, 1);
        rule("of like ones the least number", Checks.depot("curve 0 10; bus 0 90 0 20 0 3; bus 0 90 0 20 0 3;"), 1, 1, 1, 2, 0);
        rule("one that comes goes ahead", Checks.depot("curve 0 10; bus 0 90 0 30 0 4; bus 0 90 0 10 1 2;"), 1, 1, 2, 1, 1);
    }

    private static void ruleByLack() {
        // Lacking: 30 31, 30 21, 20 21, 20 11.
        rule("the most first", Checks.depot("curve 0 10; bus 0 90 0 30 0 4; bus 0 90 0 31 0 4;"), 2, 2, 1, 2, 1);
        rule("of like ones the least number", Checks.depot("curve 0 10; bus 0 90 5 15 0 4; bus 0 90 0 10 0 4;"), 2, 1, 2, 0, 0);
        rule("of need, not of capacity", Checks.depot("curve 0 10; bus 0 200 0 10 0 4; bus 0 50 0 11 0 4;"), 2, 2, 1, 2, 0);
    }

    private static void ruleBySpare() {
        // SPARE: 4 - 2 and 3 - 1, then 3 - 1 and 2 - 1.
        rule("of like ones the least number", Checks.depot("curve 0 10; bus 0 90 0 20 0 4; bus 0 90 0 10 0 3;"), 3, 1, 2, 1, 0);
        // 4 - 2 and 3 - 2.
        rule("one less", Checks.depot("curve 0 10; bus 0 90 0 20 0 4; bus 0 90 0 11 0 3;"), 3, 2, 1, 2, 1);
        // 2 - 3 is below 2 - 2.
        rule("below 0", Checks.depot("slots 2; curve 0 10; bus 0 90 0 20 0 2; bus 0 90 0 30 0 2;"), 3, 2, 1);
        // From LEVEL 45 on BUS 1 takes 1 a charge, so it lacks 5 and five charges; BUS 0 lacks 40 and four.
        // SPARE: 2 1, 1 1, 1 0, 0 0, 0 -1, -1 -1.
        rule("by charges, not by what lacks", Checks.depot("slots 6; curve 0 10 50 1; bus 0 90 0 40 0 6; bus 0 90 45 50 0 6;"),
            3, 2, 1, 2, 1, 2, 1);
    }
}

/** Promises 2 to 5: the TAPE, TEXTS and their FAULTS. */
public final class TextsTest {
    private static final Checks C = new Checks();

    public static void main(String[] args) {
        tape();
        statements();
        goesOn();
        tokens();
        cantStand();
        cantBe();
        standsAlready();
        oneTooMany();
        allElseStays();
        everyStatementCutShort();
        everyNumberTooLong();
        bytesBesideLettersAndDigits();
        longTokens();
        firstAlongTheText();
        C.finish();
    }

    private static void tape() {
        DepotCharge d = new DepotCharge();
        C.same("no bytes at first", d.count(6), 0);
        // "plugs 3;power 7;    " with the highest byte of each number first
        C.same("feed", d.feed(0x706c7567, 0x7320333b, 0x706f7765, 0x7220373b, 0x20202020), 20);
        C.same("bytes", d.count(6), 20);
        C.no("end above", d.end(21));
        C.no("end below 0", d.end(-1));
        C.no("end far below 0", d.end(Integer.MIN_VALUE));
        C.no("end far above", d.end(Integer.MAX_VALUE));
        C.yes("end as it is", d.end(20));
        C.same("tell", d.tell(), 2);
        C.same("plugs", d.count(3), 3);
        C.same("power", d.count(4), 7);
        C.same("empty then", d.count(6), 0);
        C.yes("end of an empty one", d.end(0));
        for (int i = 1; i <= 20; i++) {
            C.same("feed " + i, d.feed(0x20202020, 0x20202020, 0x20202020, 0x20202020, 0x20202020), 20 * i);
        }
        C.same("feed above 400", d.feed(0, 0, 0, 0, 0), -1);
        C.same("none came", d.count(6), 400);
        C.yes("cut to 381", d.end(381));
        C.same("feed above 400 by one", d.feed(0, 0, 0, 0, 0), -1);
        C.yes("cut to 380", d.end(380));
        C.same("feed to 400", d.feed(0x20202020, 0x706c7567, 0x7320343b, 0x0a0a0a0a, 0x20202020), 400);
        C.same("tell of 400", d.tell(), 1);
        C.same("plugs", d.count(3), 4);
        C.yes("cut again", d.feed(0x706c7567, 0x7320323b, 0x706c7567, 0x7320313b, 0) == 20 && d.end(8));
        C.same("only the first bytes are told", d.tell(), 1);
        C.same("plugs", d.count(3), 2);
    }

    private static void statements() {
        DepotCharge d = new DepotCharge();
        C.same("fault ahead of any", d.fault(), 0);
        C.same("empty text", d.tell(), 0);
        C.same("blanks alone", Checks.tell(d, " \n \n"), 0);
        C.same("all", Checks.tell(d, "slots 6; price 5 99; price 0 0; plugs 2; power 50; limit 200;"
            + "curve 0 30 60 12 100 1; curve 0 50; bus 0 200 0 200 0 6; bus 1 1 1 0 5 6; charge 3 1 0; charge 2;"), 12);
        C.same("fault", d.fault(), 0);
        int[] counts = {6, 2, 2, 2, 50, 200, 0};
        for (int i = 0; i < counts.length; i++) {
            C.same("count " + i, d.count(i), counts[i]);
        }
        int[] prices = {0, 10, 10, 10, 10, 99, -1};
        for (int i = 0; i < prices.length; i++) {
            C.same("price " + i, d.count(10 + i), prices[i]);
        }
        int[] bus0 = {0, 200, 0, 200, 0, 6};
        int[] bus1 = {1, 1, 1, 0, 5, 6};
        for (int i = 0; i < 6; i++) {
            C.same("bus 0, " + i, d.told(0, i), bus0[i]);
            C.same("bus 1, " + i, d.told(1, i), bus1[i]);
        }
        C.same("set of 3", d.plan(3), 3);
        C.same("set of 2", d.plan(2), 0);
        C.same("charge is these alone", Checks.tell(d, "charge 3 1; charge 2 0;"), 2);
        C.same("set of 3", d.plan(3), 2);
        C.same("set of 2", d.plan(2), 1);
        C.same("emptied", Checks.tell(d, "charge 3;"), 1);
        C.same("set of 3", d.plan(3), 0);
    }

    private static void goesOn() {
        DepotCharge d = Checks.depot("plugs 3; power 9; limit 77; price 1 5; curve 0 9; bus 0 10 1 9 0 4; charge 0 0;");
        C.same("slots", Checks.tell(d, "slots 4;"), 1);
        C.same("T", d.count(0), 4);
        C.same("no buses", d.count(1), 0);
        C.same("curves stay", d.count(2), 1);
        C.same("plugs stay", d.count(3), 3);
        C.same("power stays", d.count(4), 9);
        C.same("limit stays", d.count(5), 77);
        C.same("price 10", d.count(11), 10);
        C.same("plan empty", d.plan(0), 0);
        C.same("goes on", Checks.tell(d, "slots 8; price 7 3; bus 0 10 1 9 0 8; charge 7 0;"), 4);
        C.same("less", Checks.tell(d, "slots 2;slots 8;"), 2);
        C.same("price 7", d.count(17), 10);
        C.same("plan 7", d.plan(7), 0);
    }

    private static void tokens() {
        DepotCharge d = new DepotCharge();
        C.same("no blanks", Checks.tell(d, "slots5;plugs2;curve0 7 50 3;bus0 10 0 10 0 5;charge0 0;"), 5);
        C.same("newlines", Checks.tell(d, "\nprice\n4\n0007\n;\n"), 1);
        C.same("price", d.count(14), 7);
        C.same("four digits", Checks.tell(d, "plugs 0004;"), 1);
        C.same("digits together", Checks.tell(d, "price 05;"), -1);
        C.same("one number", d.fault(), 2 + 8 * 6);
        C.same("price and number", Checks.tell(d, "price 0 5;"), 1);
    }

    private static void fault(String text, int kind, int place) {
        fault("", text, kind, place);
    }

    private static void fault(String first, String text, int kind, int place) {
        DepotCharge d = Checks.depot(first);
        C.same("'" + text + "'", Checks.tell(d, text), -1);
        C.same("fault of '" + text + "'", d.fault(), kind + 8 * place);
        C.same("tape is empty", d.count(6), 0);
        C.same("told again", Checks.tell(d, "limit 9;"), 1);
        C.same("no fault", d.fault(), 0);
    }

    private static void cantStand() {
        fault(";", 1, 0);
        fault("4", 1, 0);
        fault("plug 3;", 1, 0);
        fault("plugss 3;", 1, 0);
        fault("Plugs 3;", 1, 0);
        fault("  slotsplugs 3;", 1, 2);
        fault("plugs;", 1, 5);
        fault("plugs power;", 1, 6);
        fault("plugs 3", 1, 7);
        fault("plugs 3  ", 1, 9);
        fault("plugs", 1, 5);
        fault("plugs 3 4;", 1, 8);
        fault("plugs 3;;", 1, 8);
        fault("plugs -1;", 1, 6);
        fault("plugs\t3;", 1, 5);
        fault("plugs 00001;", 1, 6);
        fault("plugs 3 00001;", 1, 8);
        fault("00001", 1, 0);
        fault("plugs 3" + (char) 200 + ";", 1, 7);
        fault("plugs 3;" + (char) 0, 1, 8);
        fault("price 1;", 1, 7);
        fault("price 1 2", 1, 9);
        fault("price 1 12345;", 1, 8);
        fault("curve;", 1, 5);
        fault("curve", 1, 5);
        fault("curve 0;", 1, 7);
        fault("curve 0 5 50;", 1, 12);
        fault("curve 0 5 x;", 1, 10);
        fault("curve 0 5", 1, 9);
        fault("curve 0 5 00050 6;", 1, 10);
        fault("curve 0 5; bus 0 10 0 10 0;", 1, 26);
        fault("curve 0 5; bus 0 10 0 10 0 4 1;", 1, 29);
        fault("charge;", 1, 6);
        fault("charge 0 bus;", 1, 9);
        fault("charge 0", 1, 8);
        fault("charge 0 00000;", 1, 9);
        fault("slots;", 1, 5);
    }

    private static void cantBe() {
        fault("slots 0;", 2, 6);
        fault("slots 9;", 2, 6);
        fault("slots 9999", 2, 6);
        fault("plugs 0;", 2, 6);
        fault("plugs 5;", 2, 6);
        fault("power 0;", 2, 6);
        fault("power 51;", 2, 6);
        fault("limit 0;", 2, 6);
        fault("limit 201;", 2, 6);
        fault("price 4 1;", 2, 6);
        fault("slots 5; price 5 1;", 2, 15);
        fault("price 3 100;", 2, 8);
        fault("curve 1 5;", 2, 6);
        fault("curve 0 0;", 2, 8);
        fault("curve 0 51;", 2, 8);
        fault("curve 0 5 0 5;", 2, 10);
        fault("curve 0 5 50 5 50 5;", 2, 15);
        fault("curve 0 5 101 5;", 2, 10);
        fault("curve 0 5 100 5 100 5;", 2, 16);
        fault("bus 0 10 0 10 0 4;", 2, 4);
        String one = "curve 0 5;";
        fault(one, "bus 1 10 0 10 0 4;", 2, 4);
        fault(one, "bus 0 0 0 10 0 4;", 2, 6);
        fault(one, "bus 0 201 0 10 0 4;", 2, 6);
        fault(one, "bus 0 10 11 10 0 4;", 2, 9);
        fault(one, "bus 0 10 10 11 0 4;", 2, 12);
        fault(one, "bus 0 10 10 10 4 4;", 2, 15);
        fault(one, "bus 0 10 10 10 9 4;", 2, 15);
        fault(one, "bus 0 10 10 10 2 2;", 2, 17);
        fault(one, "bus 0 10 10 10 2 5;", 2, 17);
        fault(one, "charge 4;", 2, 7);
        fault(one, "charge 0 0;", 2, 9);
        fault(one + "bus 0 10 0 10 0 4;", "charge 0 0 1;", 2, 11);
        fault(one + "bus 0 10 0 10 0 4;", "slots 4; charge 0 0;", 2, 18);
    }

    private static void standsAlready() {
        String two = "curve 0 5; bus 0 10 0 10 0 4; bus 0 10 0 10 0 4;";
        fault(two, "charge 0 1 1;", 3, 11);
        fault(two, "charge 0 0 1 0;", 3, 13);
        fault(two, "charge 0 0 1 2;", 2, 13);
        String four = two + "bus 0 10 0 10 0 4; bus 0 10 0 10 0 4;";
        fault(four, "charge 0 3 2 1 0 0;", 3, 17);
        fault(four, "charge 0 3 2 1 0 4;", 2, 17);
        fault(four, "charge 0 3 2 1 0 00000;", 1, 17);
        C.same("four", Checks.tell(Checks.depot(four), "charge 0 3 2 1 0;"), 1);
        C.same("another charge", Checks.tell(Checks.depot(two), "charge 0 1; charge 0 1; charge 1 1;"), 3);
    }

    private static void oneTooMany() {
        String curves = "curve 0 5; curve 0 6; curve 0 7; curve 0 8;";
        fault(curves, " curve 0 5;", 4, 1);
        fault(curves, "curve x", 4, 0);
        String buses = "curve 0 5; bus 0 10 0 10 0 4; bus 0 10 0 10 0 4; bus 0 10 0 10 0 4; bus 0 10 0 10 0 4;";
        fault(buses, "plugs 1; bus 0 10 0 10 0 4;", 4, 9);
        fault(buses, "plugs 1; bus 9", 4, 9);
        C.same("buses after slots", Checks.tell(Checks.depot(buses), "slots 4; bus 0 10 0 10 0 4;"), 2);
        fault("curve 0 5 10 5 20 5 30 5 40 5;", 4, 25);
        fault("curve 0 5 10 5 20 5 30 5 40;", 4, 25);
        fault("curve 0 5 10 5 20 5 30 5 30 5;", 2, 25);
        fault("curve 0 5 10 5 20 5 30 5 101 5;", 2, 25);
        fault("curve 0 5 10 5 20 5 30 5 00040 5;", 1, 25);
        C.same("four pieces", Checks.tell(new DepotCharge(), "curve 0 5 10 5 20 5 100 5;"), 1);
    }

    private static void allElseStays() {
        DepotCharge d = Checks.depot("plugs 3; curve 0 5; bus 0 10 0 10 0 4; charge 1 0; price 2 44;");
        C.same("fault", Checks.tell(d, "slots 8; plugs 1; power 1; limit 1; curve 0 9; bus 0 20 0 10 0 4; price 2 1; x"), -1);
        C.same("T", d.count(0), 4);
        C.same("buses", d.count(1), 1);
        C.same("curves", d.count(2), 1);
        C.same("plugs", d.count(3), 3);
        C.same("power", d.count(4), 20);
        C.same("limit", d.count(5), 40);
        C.same("price", d.count(12), 44);
        C.same("capacity", d.told(0, 1), 10);
        C.same("plan", d.plan(1), 1);
        C.same("curve of a fault is gone", d.curve(1, -1, 0), -1);
        C.same("fault stays told", d.fault(), 1 + 8 * 77);
        C.same("fault stays told", d.fault(), 1 + 8 * 77);
        C.same("curve again", Checks.tell(d, "curve 0 3;"), 1);
        C.same("one piece", d.curve(1, -1, 0), 1);
    }

    /** Every STATEMENT, cut ahead of each of its TOKENS: what is missing is a FAULT 1 at what stands there. */
    private static void everyStatementCutShort() {
        String[] all = {"slots 4", "price 0 9", "plugs 2", "power 2", "limit 2", "curve 0 9", "bus 0 9 0 9 0 4", "charge 0"};
        for (String statement : all) {
            for (int at = statement.indexOf(' '); at > 0; at = statement.indexOf(' ', at + 1)) {
                String cut = statement.substring(0, at);
                fault("curve 0 9;", cut, 1, at);
                fault("curve 0 9;", cut + ";", 1, at);
                fault("curve 0 9;", cut + " ;", 1, at + 1);
                fault("curve 0 9;", cut + " \n ", 1, at + 3);
                fault("curve 0 9;", cut + " limit 9;", 1, at + 1);
                fault("curve 0 9;", cut + ",", 1, at);
            }
            fault("curve 0 9;", statement, 1, statement.length());
            fault("curve 0 9;", statement + " slots", 1, statement.length() + 1);
            C.same(statement + ";", Checks.tell(Checks.depot("curve 0 9;"), statement + ";"), 1);
        }
    }

    /** Each NUMBER of each STATEMENT with five digits, though it would fit by what it is. */
    private static void everyNumberTooLong() {
        String first = "curve 0 9; bus 0 9 0 9 0 4;";
        String[] all = {"slots 4", "price 0 9", "plugs 2", "power 2", "limit 2", "curve 0 9 5 8", "bus 0 9 0 9 0 4", "charge 0 0"};
        for (String statement : all) {
            for (int at = statement.indexOf(' ') + 1; at > 0; at = statement.indexOf(' ', at) + 1) {
                fault(first, statement.substring(0, at) + "0000" + statement.substring(at) + ";", 1, at);
                String four = statement.substring(0, at) + "000" + statement.substring(at) + ";";
                C.same(four, Checks.tell(Checks.depot(first), four), 1);
            }
        }
    }

    /** Signs just outside a to z, 0 to 9, the blanks and the semicolon, and those that have their lowest bits. */
    private static void bytesBesideLettersAndDigits() {
        for (int sign = 0; sign < 256; sign++) {
            char c = (char) sign;
            boolean digit = sign >= 48 && sign <= 57;
            boolean letter = sign >= 97 && sign <= 122;
            if (sign == 32 || sign == 10) {
                C.same("blank " + sign, Checks.tell(new DepotCharge(), c + "plugs" + c + "2" + c + ";" + c), 1);
                continue;
            }
            if (sign == ';') {
                C.same("semicolon", Checks.tell(new DepotCharge(), "plugs 2" + c), 1);
                fault("plugs 2;" + c, 1, 8);
                continue;
            }
            fault(c + "plugs 2;", 1, 0);
            if (digit) {
                fault("plugs 2" + c + ";", 2, 6);
                continue;
            }
            fault("plugs 2" + c, 1, 7);
            fault("plugs " + c + ";", 1, 6);
            fault("plugs" + c + " 2;", 1, letter ? 0 : 5);
        }
    }

    private static void longTokens() {
        fault("9".repeat(400), 1, 0);
        fault("a".repeat(400), 1, 0);
        fault("slots" + "0".repeat(390) + "1;", 1, 5);
        // As an int that goes round these would be 2, 0 and 1.
        fault("plugs 4294967298;", 1, 6);
        fault("plugs 18446744073709551617;", 1, 6);
        fault("plugs 10002;", 1, 6);
        fault("plugs 9999;", 2, 6);
        fault("slotss 4;", 1, 0);
        fault("slot 4;", 1, 0);
        fault("slots" + " ".repeat(395), 1, 400);
        fault("plugs2 power2;", 1, 7);
        fault("plugs 2;power 2;3", 1, 16);
        C.same("400 bytes", Checks.tell(new DepotCharge(), "slots 8" + "\n".repeat(392) + ";"), 1);
    }

    /** Of several FAULTS the first along the text, whatever its kind. */
    private static void firstAlongTheText() {
        String full = "curve 0 5; bus 0 10 0 10 0 4; bus 0 10 0 10 0 4; bus 0 10 0 10 0 4; bus 0 10 0 10 0 4;";
        fault("plugs 9; x", 2, 6);
        fault("x; plugs 9;", 1, 0);
        fault("price 9 x;", 2, 6);
        fault("price x 999;", 1, 6);
        fault(full, "bus 9 x", 4, 0);
        fault(full, "charge 0 1 1 9;", 3, 11);
        fault(full, "charge 0 9 1 1;", 2, 9);
        fault(full, "charge 9 1 1;", 2, 7);
        fault(full, "charge 0 1 1 bus;", 3, 11);
        fault(full, "limit 201; bus 0 10 0 10 0 4;", 2, 6);
        fault(full, "bus 0 10 0 10 0 4; limit 201;", 4, 0);
        // A word that can't stand there is no BUS too many.
        fault(full, "plugs bus 0 10 0 10 0 4;", 1, 6);
        fault(full, "plugs 2 bus 0 10 0 10 0 4;", 1, 8);
        fault("curve 0 5; curve 0 5; curve 0 5; curve 0 5;", "plugs curve 0 5;", 1, 6);
        // What an earlier STATEMENT of the text changes holds for the later ones.
        fault("slots 2; price 2 5;", 2, 15);
        fault("slots 8; slots 2; charge 2;", 2, 25);
        fault("curve 0 5;", "slots 8; bus 0 10 0 10 0 8; slots 4; bus 0 10 0 10 0 8;", 2, 53);
        fault("curve 0 5; bus 1 10 0 10 0 4;", 2, 15);
        fault("curve 0 5; bus 0 10 0 10 0 4; charge 0 0 1;", 2, 41);
        C.same("slots make place", Checks.tell(Checks.depot(full), "slots 4;" + full.substring(10)), 5);
        fault(full, "slots 4;" + full.substring(10) + "bus 0 10 0 10 0 4;", 4, 8 + full.length() - 10);
    }
}

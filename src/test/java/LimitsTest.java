import java.lang.reflect.Constructor;
import java.lang.reflect.Field;
import java.lang.reflect.Method;
import java.lang.reflect.Modifier;
import java.util.Arrays;
import java.util.List;
import java.util.Random;
import java.util.TreeSet;

/** The face as the document has it, calls that make no objects, the dearest calls, numbers of any kind. */
public final class LimitsTest {
    private static final Checks C = new Checks();
    private static final String FULL_DEPOT = "slots 8; plugs 4; power 25; limit 60; curve 0 50;"
        + "price 0 3; price 1 9; price 2 4; price 3 1; price 4 5; price 5 9; price 6 2; price 7 6;"
        + "bus 0 200 0 100 0 8; bus 0 200 1 101 0 8; bus 0 200 2 102 0 8; bus 0 200 3 103 0 8;";

    public static void main(String[] args) {
        face();
        dearestCalls();
        makesNoObjects();
        anyNumbers();
        C.finish();
    }

    private static void face() {
        List<String> want = List.of("feed/5", "end/1", "tell/0", "fault/0", "set/2", "bus/6", "drop/0", "charge/3", "clear/0",
            "count/1", "told/2", "curve/3", "takes/2", "slots/3", "plan/1", "level/2", "used/1", "sum/1", "lack/1", "best/1",
            "take/0", "late/2", "latest/1", "were/2", "least/1", "without/1", "rule/2", "takeRule/1", "bestRule/0");
        TreeSet<String> open = new TreeSet<>();
        for (Method m : DepotCharge.class.getDeclaredMethods()) {
            String name = m.getName() + "/" + m.getParameterCount();
            if (Modifier.isPublic(m.getModifiers())) {
                open.add(name);
            } else {
                C.yes(name + " is private", Modifier.isPrivate(m.getModifiers()));
                C.no(name + " has another name", want.stream().anyMatch(w -> w.startsWith(m.getName() + "/")));
            }
        }
        C.yes("face " + open, open.equals(new TreeSet<>(want)));
        for (Field f : DepotCharge.class.getDeclaredFields()) {
            C.yes(f.getName(), Modifier.isPrivate(f.getModifiers()) || f.getName().equals("NONE"));
            C.yes(f.getName(), !Modifier.isStatic(f.getModifiers()) || Modifier.isFinal(f.getModifiers()));
        }
        for (Constructor<?> c : DepotCharge.class.getDeclaredConstructors()) {
            C.same("constructor", c.getParameterCount(), 0);
        }
        C.yes("final", Modifier.isFinal(DepotCharge.class.getModifiers()));
        for (Class<?> inside : DepotCharge.class.getDeclaredClasses()) {
            int is = inside.getModifiers();
            C.yes(inside + " is static, and not open", Modifier.isStatic(is) && !Modifier.isPublic(is) && !Modifier.isProtected(is));
            long fields = Arrays.stream(inside.getDeclaredFields()).filter(f -> !Modifier.isStatic(f.getModifiers())).count();
            C.yes(inside + " has some twenty fields at most: " + fields, fields <= 20);
        }
    }

    private static void dearestCalls() {
        DepotCharge d = Checks.depot(FULL_DEPOT);
        C.same("lack by two a slot", d.best(3), 0);
        for (int i = 0; i < 100; i++) {
            C.same("least power", d.least(1), 13);
            C.same("latest", d.latest(3), 4);
        }
        Checks.tell(d, "limit 40; curve 0 30 20 20 40 10; slots 8; bus 1 200 0 200 0 8; bus 1 200 1 200 0 8;"
            + "bus 1 200 2 200 0 8; bus 1 200 3 200 0 8;");
        for (int i = 0; i < 100; i++) {
            d.set(3, i % 2);
            C.yes("best", d.best(3) > 0);
            C.same("least power", d.least(1), -1);
        }
    }

    private static void everyCall(DepotCharge d, int i) {
        d.feed(i, i, i, i, i);
        d.end(0);
        d.tell();
        d.set(3, i % 100);
        d.charge(i % 8, i % 4, true);
        d.level(i % 4, 3);
        d.used(3);
        d.sum(4);
        d.best(0);
        d.late(0, i % 9);
        d.latest(1);
        d.were(1, 1 + i % 50);
        d.least(i % 3);
        d.without(i % 16);
        d.rule(3, 0);
        d.bestRule();
        d.takeRule(i % 4);
        d.take();
        d.drop();
        d.bus(0, 200, 3, 103, 0, 8);
        d.slots(0, 0, 200);
        d.clear();
    }

    private static void makesNoObjects() {
        com.sun.management.ThreadMXBean threads =
            (com.sun.management.ThreadMXBean) java.lang.management.ManagementFactory.getThreadMXBean();
        DepotCharge d = Checks.depot(FULL_DEPOT);
        long self = Thread.currentThread().getId();
        everyCall(d, 0);
        long before = threads.getThreadAllocatedBytes(self);
        for (int i = 0; i < 20; i++) {
            everyCall(d, i);
        }
        long made = threads.getThreadAllocatedBytes(self) - before;
        C.yes("440 calls made " + made + " bytes", made < 20000);
        before = threads.getThreadAllocatedBytes(self);
        DepotCharge one = new DepotCharge();
        made = threads.getThreadAllocatedBytes(self) - before;
        // In one room there may be 7.3 million elements of all objects: 14,000 each leave place for hundreds.
        C.yes("one object made " + made + " bytes", made < 100000);
        C.same("it is one", one.count(0), 4);
    }

    private static void anyNumbers() {
        int[] odd = {Integer.MIN_VALUE, -9, -2, -1, 0, 1, 2, 3, 4, 5, 8, 9, 10, 13, 31, 32, 33, 200, 201, 1 << 30, Integer.MAX_VALUE};
        Random chance = new Random(7);
        for (int run = 0; run < 60; run++) {
            DepotCharge d = run % 2 == 0 ? new DepotCharge() : Checks.depot(FULL_DEPOT);
            for (int i = 0; i < 400; i++) {
                int[] n = chance.ints(6, 0, odd.length).map(k -> odd[k]).toArray();
                C.yes("call " + i + " " + Arrays.toString(n), oddCall(d, chance.nextInt(26), n));
            }
        }
    }

    private static boolean oddCall(DepotCharge d, int which, int[] n) {
        switch (which) {
            case 0: d.feed(n[0], n[1], n[2], n[3], n[4]); break;
            case 1: d.end(n[0]); break;
            case 2: d.tell(); break;
            case 3: d.set(n[0], n[1]); break;
            case 4: d.bus(n[0], n[1], n[2], n[3], n[4], n[5]); break;
            case 5: d.drop(); break;
            case 6: d.charge(n[0], n[1], n[2] > 0); break;
            case 7: d.clear(); break;
            case 8: d.count(n[0]); break;
            case 9: d.curve(n[0], n[1], n[2]); break;
            case 10: d.takes(n[0], n[1]); break;
            case 11: d.slots(n[0], n[1], n[2]); break;
            case 12: d.plan(n[0]); break;
            case 13: d.level(n[0], n[1]); break;
            case 14: d.used(n[0]); break;
            case 15: d.sum(n[0]); break;
            case 16: d.lack(n[0]); break;
            case 17: d.best(n[0]); break;
            case 18: d.take(); break;
            case 19: d.late(n[0], n[1]); break;
            case 20: d.latest(n[0]); break;
            case 21: d.were(n[0], n[1]); break;
            case 22: d.least(n[0]); break;
            case 23: d.without(n[0]); break;
            case 24: d.rule(n[0], n[1]); break;
            default: d.takeRule(n[0]); break;
        }
        return true;
    }
}

import java.lang.management.ManagementFactory;
import java.lang.reflect.Array;
import java.lang.reflect.Field;
import java.lang.reflect.Modifier;
import java.util.ArrayDeque;
import java.util.IdentityHashMap;
import java.util.Map;

/**
 * The room that a run takes: some 600,000 objects and arrays, 7.3 million fields and elements in all. What an object
 * holds is counted from the object itself, what its calls make from the bytes that the machine hands out for them.
 */
public final class RoomTests {
    private static final int CALLS = 512;
    private static final int MOST_OBJECTS = 1000;
    private static final int MOST_ELEMENTS = 20000;
    // A law that was read: it, its rows, and a thing for each byte of the text at most.
    private static final int MOST_LAW_OBJECTS = 6;
    private static final int MOST_LAW_ELEMENTS = 500;
    // What the machine itself may take beside: 512 calls that make nothing stay far below an object each.
    private static final long NOTHING = 4096;

    private static final Check check = new Check("RoomTests");

    private interface OnWater {
        long answer(VintageWater x);
    }

    private static long answers;

    public static void main(String[] args) {
        held();
        heldByLaw();
        if (isMeasured()) made();
        check.finish();
    }

    private static VintageWater rich() {
        VintageWater x = Check.water("cistern 99;cistern 99 holy;cistern 99 common;cistern 99 cracked;cistern 99;cistern 99;cistern 99;cistern 99",
            "pour 40 of 0 in 0;pour 50 of 1 in 0;pour 40 of 2 in 2;pour 30 of 3 in 3;pour 9 of 29 in 7;salt 1 8;salt 2 5;salt 3 9;leak 0 to 1 2;leak 2 away 1;leak 7 to 6 3",
            "house 2 at 0;house 1 at 0 bears 7;house 3 at 2;house 1 at 3;house 0 at 4;house 1 at 7;house 1 at 0;house 1 at 2");
        Check.law(x, longestLaw());
        x.months(3);
        x.image();
        return x;
    }

    /** As many things as 400 bytes can have: bar if 1<1+1+1+.. */
    private static String longestLaw() {
        StringBuilder text = new StringBuilder("bar if measures<1;bar if 1+1<1");
        while (text.length() < 399) text.append("+1");
        return text.length() < 400 ? text.append(' ').toString() : text.toString();
    }

    /** Of all that an object holds: 0 objects and arrays, 1 their fields and elements. */
    private static long[] roomOf(Object begin) {
        long[] room = {0, 0};
        Map<Object, Object> seen = new IdentityHashMap<>();
        ArrayDeque<Object> waiting = new ArrayDeque<>();
        waiting.add(begin);
        seen.put(begin, begin);
        while (!waiting.isEmpty()) {
            Object one = waiting.remove();
            room[0]++;
            if (one.getClass().isArray()) {
                room[1] += Array.getLength(one);
                for (int i = 0; i < Array.getLength(one) && one instanceof Object[]; i++) meet(Array.get(one, i), seen, waiting);
            } else {
                room[1] += fieldsOf(one, seen, waiting);
            }
        }
        return room;
    }

    private static long fieldsOf(Object one, Map<Object, Object> seen, ArrayDeque<Object> waiting) {
        long fields = 0;
        for (Class<?> made = one.getClass(); made != Object.class; made = made.getSuperclass()) {
            for (Field field : made.getDeclaredFields()) {
                if (Modifier.isStatic(field.getModifiers())) continue;
                fields++;
                if (!field.getType().isPrimitive()) meet(valueOf(field, one), seen, waiting);
            }
        }
        return fields;
    }

    private static Object valueOf(Field field, Object one) {
        try {
            field.setAccessible(true);
            return field.get(one);
        } catch (IllegalAccessException e) {
            throw new IllegalStateException(e);
        }
    }

    private static void meet(Object next, Map<Object, Object> seen, ArrayDeque<Object> waiting) {
        if (next != null && seen.put(next, next) == null) waiting.add(next);
    }

    private static void held() {
        check.says("make rows in constructors and use them again");
        long[] made = roomOf(new VintageWater());
        check.due("a new object: objects and arrays, at most " + MOST_OBJECTS + ", are " + made[0], made[0] <= MOST_OBJECTS, true);
        check.due("a new object: fields and elements, at most " + MOST_ELEMENTS + ", are " + made[1], made[1] <= MOST_ELEMENTS, true);
        VintageWater x = rich();
        long[] told = roomOf(x);
        x.months(60);
        x.lasts();
        x.order(true);
        x.site(9);
        x.enough(9, 9);
        x.image();
        x.undo();
        x.back();
        long[] later = roomOf(x);
        check.due("nothing comes to it by calls: objects and arrays", later[0], told[0]);
        check.due("nothing comes to it by calls: fields and elements", later[1], told[1]);
    }

    private static void heldByLaw() {
        check.says("count your dearest call's objects and elements times all calls");
        VintageWater x = new VintageWater();
        long[] before = roomOf(x);
        Check.law(x, longestLaw());
        long[] behind = roomOf(x);
        check.due("objects and arrays of a LAW are " + (behind[0] - before[0]), behind[0] - before[0] <= MOST_LAW_OBJECTS, true);
        check.due("fields and elements of a LAW are " + (behind[1] - before[1]), behind[1] - before[1] <= MOST_LAW_ELEMENTS, true);
    }

    private static boolean isMeasured() {
        return ManagementFactory.getThreadMXBean() instanceof com.sun.management.ThreadMXBean machine
            && machine.isThreadAllocatedMemorySupported() && machine.isThreadAllocatedMemoryEnabled();
    }

    private static long bytes() {
        com.sun.management.ThreadMXBean machine = (com.sun.management.ThreadMXBean) ManagementFactory.getThreadMXBean();
        return machine.getThreadAllocatedBytes(Thread.currentThread().getId());
    }

    /** The call is made once ahead, so that the machine has all that it needs of it. */
    private static void makes(String what, long most, OnWater call) {
        VintageWater x = rich();
        answers += call.answer(x);
        long before = bytes();
        for (int i = 0; i < CALLS; i++) answers += call.answer(x);
        long made = bytes() - before;
        check.due(CALLS + " calls of " + what + " made " + made + " bytes, at most " + most, made <= most, true);
    }

    private static long fed(VintageWater x, int n) {
        x.feed(1630535777, 808542305, 808542305, 808542305, 808542305);
        return x.end(n) ? 1 : 0;
    }

    private static void made() {
        check.says("All calls of one run live in ONE room: some 600,000 objects and arrays, 7.3 million fields and elements in all");
        makes("feed() and end()", NOTHING, x -> fed(x, 0));
        makes("land()", NOTHING, x -> fed(x, 0) + (x.count(2) < 10 ? x.land() : 0));
        makes("cistern() to next()", NOTHING, x -> x.cistern(0, 6) + x.layer(0, 1) + x.salt(1) + x.house(0, 4) + x.drank(0, 0) + x.place(0, 1) + x.next(0));
        makes("months() and undo()", NOTHING, x -> x.months(3) + x.undo() + x.latest(0, 0));
        makes("oath(), winter(), seal()", NOTHING, x -> x.oath(5, 1) + x.winter(9) + (x.seal(5, false) ? 1 : 0) + x.seed(7));
        makes("blend(), swap(), mix()", NOTHING, x -> x.blend(0, 3, 8) + x.swap(0, 0, 2, 2, 1) + x.mix(0, 4, 1));
        makes("lasts() and worst()", NOTHING, x -> x.lasts() + x.worst());
        makes("judge()", NOTHING, x -> fed(x, 2) + x.judge());
        makes("look()", NOTHING, x -> fed(x, 8) + x.look());
        makes("foul() and fewest()", NOTHING, x -> x.foul(5) + x.fewest(255));
        makes("site()", NOTHING, x -> x.site(9));
        makes("owed(), owe(), settle()", NOTHING, x -> x.owed(0, 9) + (x.count(13) < 8 ? x.owe(0, 1, 9) : 0) + x.settle(0) + x.debt(0));
        makes("order() and enough()", NOTHING, x -> x.order(true) + x.enough(3, 2));
        makes("image() and back()", NOTHING, x -> {
            x.image();
            return x.back() ? x.count(7) + x.fault() : 0;
        });
        madeByLaw();
    }

    /** Four bytes an element, and of each object and array what the machine puts ahead of it. */
    private static void madeByLaw() {
        VintageWater x = rich();
        long begun = bytes();
        // What asking for the bytes takes by itself.
        long asking = bytes() - begun;
        long made = 0;
        for (int i = 0; i < CALLS; i++) {
            Check.tell(x, longestLaw());
            long before = bytes();
            answers += x.law();
            made += bytes() - before - asking;
        }
        long most = CALLS * (4L * MOST_LAW_ELEMENTS + 32L * MOST_LAW_OBJECTS);
        check.due(CALLS + " calls of law() made " + made + " bytes, at most " + most, made <= most, true);
    }
}

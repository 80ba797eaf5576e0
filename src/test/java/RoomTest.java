import java.lang.management.ManagementFactory;
import java.lang.reflect.Array;
import java.lang.reflect.Field;
import java.lang.reflect.Modifier;
import java.util.IdentityHashMap;
import java.util.Map;
import java.util.function.IntSupplier;

/** The room that a run of calls takes: what an object is made of, and that no call makes any more. */
public final class RoomTest extends Checks {
    private static final int CALLS = 512;
    private static final com.sun.management.ThreadMXBean THREADS =
        (com.sun.management.ThreadMXBean) ManagementFactory.getThreadMXBean();

    private static int told = 0;

    /** Fields and elements of all that an object is made of; the objects and arrays come to a map. */
    private static int fieldsOf(Object thing, Map<Object, Object> seen) {
        if (thing == null || seen.put(thing, thing) != null) {
            return 0;
        }
        if (thing.getClass().isArray()) {
            return elementsOf(thing, seen);
        }
        int many = 0;
        for (Field field : thing.getClass().getDeclaredFields()) {
            if (!Modifier.isStatic(field.getModifiers())) {
                many += 1 + (field.getType().isPrimitive() ? 0 : fieldsOf(valueOf(field, thing), seen));
            }
        }
        return many;
    }

    private static int elementsOf(Object array, Map<Object, Object> seen) {
        int length = Array.getLength(array);
        int many = length;
        for (int i = 0; i < length && array instanceof Object[]; i++) {
            many += fieldsOf(Array.get(array, i), seen);
        }
        return many;
    }

    private static Object valueOf(Field field, Object thing) {
        try {
            field.setAccessible(true);
            return field.get(thing);
        } catch (IllegalAccessException hidden) {
            throw new IllegalStateException(field.getName(), hidden);
        }
    }

    /** Bytes that are made by as many calls as an object is used for. */
    private static long madeBy(IntSupplier call) {
        call.getAsInt();
        long before = THREADS.getCurrentThreadAllocatedBytes();
        for (int i = 0; i < CALLS; i++) {
            told += call.getAsInt();
        }
        return THREADS.getCurrentThreadAllocatedBytes() - before;
    }

    /** Fewer bytes than one object takes for each of the calls. */
    private static void makesNone(IntSupplier call) {
        due(madeBy(call) / CALLS, 0);
    }

    private static OwnLight full() {
        OwnLight x = town("g64 D.................#...#. c501b412o231f131l331h212");
        row(x, 0, RIGHT, DOWN, LEFT, UP, RIGHT, DOWN, LEFT, UP);
        x.row(1, 60);
        x.keep(0);
        x.saw(0, 1);
        return x;
    }

    public static void main(String[] args) {
        test(0, "an object is made of few objects, fields and elements", () -> {
            Map<Object, Object> seen = new IdentityHashMap<>();
            int fields = fieldsOf(full(), seen);
            due(fields > 1000 && fields < 10000 ? 1 : 0, 1);
            due(seen.size() > 10 && seen.size() < 100 ? 1 : 0, 1);
        });
        test(0, "rows and texts make none", () -> {
            OwnLight x = full();
            makesNone(() -> x.row(2, 60));
            makesNone(() -> x.lay(1, 0, 1));
            makesNone(() -> x.at(1, 0));
            makesNone(() -> x.copy(1, 0, 1, 1, 59));
            makesNone(() -> x.mean(1));
            makesNone(() -> x.tear(2));
            makesNone(() -> x.text(1, 80));
            makesNone(() -> x.put(1, 0, 65));
            makesNone(() -> x.fault(0));
        });
        test(0, "a town and a round make none", () -> {
            OwnLight x = full();
            makesNone(() -> x.town(0));
            makesNone(() -> x.shade(0, 1) + x.shade(0, 0));
            makesNone(() -> x.act(RIGHT) + x.may() + x.undo(0));
            makesNone(() -> x.judge(0));
            makesNone(() -> x.keep(1) + x.on(1));
            makesNone(() -> x.lots(200, 7));
            makesNone(() -> (int) x.digest());
        });
        test(0, "what is told of orders, thieves and dawn makes none", () -> {
            OwnLight x = full();
            makesNone(() -> x.shade(0, 1) + x.shortest(3) + x.shade(0, 0) + x.shortest(3));
            makesNone(x::orders);
            makesNone(x::first);
            makesNone(x::rings);
            makesNone(x::dark);
            makesNone(x::bright);
            makesNone(x::shades);
            makesNone(() -> x.two(23));
            makesNone(() -> x.thief(0, 63));
            makesNone(() -> x.saw(1, 2) + x.forget(0));
            makesNone(x::fits);
            makesNone(() -> x.sure(0, 1));
            makesNone(x::dawn);
        });
        end();
    }
}

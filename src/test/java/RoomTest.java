import java.lang.management.ManagementFactory;
import java.lang.reflect.Array;
import java.lang.reflect.Field;
import java.lang.reflect.Modifier;
import java.util.IdentityHashMap;
import java.util.Map;

/** What a board takes of the one room that all calls of a run share: its own making, and no call more. */
public final class RoomTest {
    private static final int MOST_OBJECTS = 300;
    private static final int MOST_ELEMENTS = 4000;
    private static final int MOST_BYTES = 4096;

    private final Map<Object, Boolean> found = new IdentityHashMap<>();
    private int elements = 0;

    public static void main(String[] args) throws ReflectiveOperationException {
        RoomTest room = new RoomTest();
        room.walk(new NeighbourBoard());
        System.out.println("a board: " + room.found.size() + " objects, " + room.elements + " fields and elements");
        boolean small = room.found.size() <= MOST_OBJECTS && room.elements <= MOST_ELEMENTS;
        // The first run has classes loaded; what it takes is not the board's.
        bytesOfCalls(new NeighbourBoard());
        long bytes = bytesOfCalls(new NeighbourBoard());
        System.out.println("its calls: " + bytes + " bytes");
        if (!small || bytes > MOST_BYTES) {
            System.out.println("that is too much");
            System.exit(1);
        }
    }

    private void walk(Object object) throws ReflectiveOperationException {
        if (object == null || found.put(object, true) != null) return;
        Class<?> kind = object.getClass();
        if (kind.isArray()) {
            elements += Array.getLength(object);
            for (int i = 0; i < Array.getLength(object) && !kind.getComponentType().isPrimitive(); i++) {
                walk(Array.get(object, i));
            }
            return;
        }
        for (Field field : kind.getDeclaredFields()) {
            if (Modifier.isStatic(field.getModifiers())) continue;
            elements++;
            field.setAccessible(true);
            if (!field.getType().isPrimitive()) walk(field.get(object));
        }
    }

    private static long bytesOfCalls(NeighbourBoard b) {
        com.sun.management.ThreadMXBean threads =
            (com.sun.management.ThreadMXBean) ManagementFactory.getThreadMXBean();
        long id = Thread.currentThread().getId();
        long before = threads.getThreadAllocatedBytes(id);
        for (int round = 0; round < 16; round++) callAll(b, round);
        return threads.getThreadAllocatedBytes(id) - before;
    }

    private static void callAll(NeighbourBoard b, int round) {
        b.row(0, 1, 5);
        b.write(0, 0, 1);
        b.write(0, 1, 5);
        b.see(round, 3 * round % 7, 100 - 9 * round, round % 3);
        b.table(0);
        b.straight(3);
        b.capped(7, 70);
        b.sum(0, 1);
        b.use(1);
        b.nearest(8);
        b.ask(3, 3);
        for (int what = 0; what < 18; what++) b.answer(what);
        b.mean(0);
        b.leftOut(round);
        b.worst();
        b.best();
        b.allowed(2);
        b.band(0, 80);
        for (int what = 0; what < 3; what++) b.look(what);
        b.part(true, 0);
        b.told(0, 0);
        b.count(4);
        b.unlike(0, 3);
        b.pairs(1, 9);
        if (round > 8) b.drop(0);
        if (round == 12) b.seen(0);
        b.tear(0);
    }
}

import com.sun.management.ThreadMXBean;
import java.lang.management.ManagementFactory;
import java.lang.reflect.Array;
import java.lang.reflect.Field;
import java.lang.reflect.Modifier;
import java.util.ArrayDeque;
import java.util.Collections;
import java.util.Deque;
import java.util.IdentityHashMap;
import java.util.Set;

/** A run has a small room: what an object is made of is counted, and its calls make nothing. */
public final class RoomTest {
    private static final int MOST_OBJECTS = 100;
    private static final int MOST_FIELDS = 2000;
    /** What the machine itself may take while it is asked; a call that made one object would take more. */
    private static final long SLACK = 8000;

    private final Set<Object> seen = Collections.newSetFromMap(new IdentityHashMap<>());
    private final Deque<Object> open = new ArrayDeque<>();
    private int fields;

    public static void main(String[] args) throws IllegalAccessException {
        RoomTest room = new RoomTest();
        room.walk(new MillSails());
        System.out.println("a new object: " + room.seen.size() + " objects and arrays, " + room.fields + " fields");
        Due.is("objects", room.seen.size() <= MOST_OBJECTS ? 1 : 0, 1);
        Due.is("fields and elements", room.fields <= MOST_FIELDS ? 1 : 0, 1);
        callsMakeNothing();
        Due.end("RoomTest");
    }

    private void walk(Object first) throws IllegalAccessException {
        meet(first);
        while (!open.isEmpty()) {
            Object one = open.pop();
            Class<?> type = one.getClass();
            if (type.isArray()) {
                fields += Array.getLength(one);
                for (int i = 0; i < Array.getLength(one) && !type.getComponentType().isPrimitive(); i++) {
                    meet(Array.get(one, i));
                }
                continue;
            }
            for (Field field : type.getDeclaredFields()) {
                if (!Modifier.isStatic(field.getModifiers())) {
                    fields++;
                    field.setAccessible(true);
                    if (!field.getType().isPrimitive()) {
                        meet(field.get(one));
                    }
                }
            }
        }
    }

    private void meet(Object one) {
        if (one != null && seen.add(one)) {
            open.push(one);
        }
    }

    private static void callsMakeNothing() {
        ThreadMXBean threads = (ThreadMXBean) ManagementFactory.getThreadMXBean();
        long thread = Thread.currentThread().getId();
        MillSails mill = new MillSails();
        allCalls(mill, 20);
        long before = threads.getThreadAllocatedBytes(thread);
        allCalls(mill, 1000);
        long made = threads.getThreadAllocatedBytes(thread) - before;
        System.out.println("1000 rounds of all calls made " + made + " bytes");
        Due.is("calls make nothing", made <= SLACK ? 1 : 0, 1);
    }

    private static void allCalls(MillSails mill, int rounds) {
        String text = "w7;rfffmfff;rfxxxxff;rfffmffh;rxxffxxf;rfffffpp;t0 0;s4 1;n4;";
        for (int i = 0; i < rounds; i++) {
            for (int c = 0; c < text.length(); c++) {
                mill.type(text.charAt(c));
            }
            mill.lawn();
            mill.type(1);
            mill.lawn();
            mill.clear();
            mill.cell(1, 1);
            mill.score(0);
            mill.now(5);
            mill.strikes(i % 4, i % 6 + 1);
            mill.waits(i % 9 + 1);
            mill.boards(i % 7, i % 5, i % 2);
            mill.would(1, 6);
            mill.when(1, 6);
            mill.home(1);
            mill.ones();
            mill.odds(1, 3, 2, 1);
            mill.lay(1, 1);
            mill.which(1);
            mill.forget();
            mill.best();
            mill.board(0);
            mill.board(1);
            mill.rate(i % 6, 1, 1);
            mill.keep(1);
            mill.undo();
            mill.back(1);
            mill.count(5);
            mill.trace();
        }
    }
}

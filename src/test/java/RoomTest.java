import java.lang.management.ManagementFactory;
import java.lang.reflect.Array;
import java.lang.reflect.Field;
import java.lang.reflect.Modifier;
import java.util.ArrayDeque;
import java.util.Collections;
import java.util.IdentityHashMap;
import java.util.Set;

/** A run's room: what an object holds is small, and no call makes anything more. */
public final class RoomTest {
    private static final int OBJECTS_MOST = 1000;
    private static final int ELEMENTS_MOST = 60000;
    private static final String[] GOALS = {"&Aabc&Adef!", "&#ab&|AabcMab#a(1c)", "=a", "|AabcAabc"};

    private RoomTest() {
    }

    public static void main(String[] args) throws IllegalAccessException {
        GoalsInAQueue x = new GoalsInAQueue();
        long[] held = held(x);
        System.out.println("a new object holds " + held[0] + " objects, " + held[1] + " fields and elements");
        Check.holds("few objects", held[0] <= OBJECTS_MOST);
        Check.holds("few fields and elements", held[1] <= ELEMENTS_MOST);
        allCalls(x);
        long[] later = held(x);
        Check.due("objects later", later[0], held[0]);
        Check.due("fields and elements later", later[1], held[1]);
        // The first round may load classes; only what the later ones make is the calls' own.
        var threads = (com.sun.management.ThreadMXBean) ManagementFactory.getThreadMXBean();
        threads.getCurrentThreadAllocatedBytes();
        long least = Long.MAX_VALUE;
        for (int round = 0; round < 5; round++) {
            long before = threads.getCurrentThreadAllocatedBytes();
            allCalls(x);
            least = Math.min(least, threads.getCurrentThreadAllocatedBytes() - before);
        }
        Check.due("bytes made by all calls", least, 0);
        Check.end("RoomTest");
    }

    private static void allCalls(GoalsInAQueue x) {
        for (int g = 0; g < GOALS.length; g++) {
            for (int i = 0; i < GOALS[g].length(); i++) {
                x.letter(GOALS[g].charAt(i));
            }
            x.goal();
            x.image();
            for (int i = 0; i < 4; i++) {
                x.steps(100);
                for (int v = -1; v < 7; v++) {
                    x.row(40);
                    x.length(v, v);
                    x.text(v, v, v);
                    x.when(v);
                    x.kept(v);
                    x.queue(v);
                    x.done();
                    x.different(v);
                    x.earliest(v, v);
                    x.meet(v, 0);
                    x.need(v);
                    x.left(v, v);
                    x.least(v);
                    x.turned(v);
                    x.share(v);
                    x.which(v);
                    x.judge(v);
                    x.lots(v, v, 0);
                    x.count(v);
                }
                x.answers();
                x.clear();
            }
            x.on();
        }
    }

    /** How many objects there are from one on, and how many fields and elements they have together. */
    private static long[] held(Object from) throws IllegalAccessException {
        Set<Object> seen = Collections.newSetFromMap(new IdentityHashMap<>());
        ArrayDeque<Object> waiting = new ArrayDeque<>();
        waiting.add(from);
        long elements = 0;
        while (!waiting.isEmpty()) {
            Object next = waiting.remove();
            if (!seen.add(next)) {
                continue;
            }
            Class<?> type = next.getClass();
            if (type.isArray()) {
                elements += Array.getLength(next);
                if (!type.getComponentType().isPrimitive()) {
                    for (Object inside : (Object[]) next) {
                        waiting.add(inside);
                    }
                }
                continue;
            }
            for (Field field : type.getDeclaredFields()) {
                if (!Modifier.isStatic(field.getModifiers())) {
                    elements++;
                    if (!field.getType().isPrimitive()) {
                        field.setAccessible(true);
                        waiting.add(field.get(next));
                    }
                }
            }
        }
        return new long[] {seen.size(), elements};
    }
}

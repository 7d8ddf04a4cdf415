import java.lang.management.ManagementFactory;
import java.lang.reflect.Array;
import java.lang.reflect.Field;
import java.lang.reflect.Modifier;
import java.util.Collections;
import java.util.IdentityHashMap;
import java.util.Set;

/** The room that an object takes: all of it is taken by the constructor, and no call takes more. */
public final class RoomTest {
    private static final int MOST_OBJECTS = 300;
    private static final int MOST_ELEMENTS = 4_300;
    /** What the measuring itself may take; one small row for each call would take more. */
    private static final long MOST_BYTES = 1_000;
    /** Keeps what the calls answer, so that none of them can be left out. */
    private static int answers = 0;

    /** The k-th call of many, which throws nothing. */
    interface Calls {
        int make(ShakenTree tree, int k);
    }

    private final Set<Object> objects = Collections.newSetFromMap(new IdentityHashMap<>());
    private int elements = 0;

    private RoomTest(Object whole) throws IllegalAccessException {
        walk(whole);
    }

    public static void main(String[] args) throws IllegalAccessException {
        constructorTakesAll();
        callsMakeNothing("shakes and questions", Story.full(), RoomTest::ask);
        callsMakeNothing("runs", descent(), (tree, k) -> tree.run(k % 2 == 0, 0, 7, 0));
        callsMakeNothing("clearing and adding", new Story(), RoomTest::build);
        Check.finish();
    }

    private static void constructorTakesAll() throws IllegalAccessException {
        RoomTest fresh = new RoomTest(new ShakenTree());
        Check.due("few objects: " + fresh.objects.size(), 1, fresh.objects.size() <= MOST_OBJECTS ? 1 : 0);
        Check.due("few elements: " + fresh.elements, 1, fresh.elements <= MOST_ELEMENTS ? 1 : 0);
        for (Story story : new Story[] {Story.full().shake(), Story.full().shake().clear(), descent()}) {
            ShakenTree tree = story.told();
            Check.thrownBy(() -> tree.run(true, 0, 7, 0));
            RoomTest used = new RoomTest(tree);
            Check.due("objects after use", fresh.objects.size(), used.objects.size());
            Check.due("elements after use", fresh.elements, used.elements);
        }
    }

    private static int ask(ShakenTree tree, int k) {
        return switch (k % 8) {
            case 0 -> tree.shake();
            case 1 -> tree.fault();
            case 2 -> tree.constantAt(false, k % 5, k % 20, k % 3);
            case 3 -> tree.memberAt(false, k % 30, k % 6);
            case 4 -> tree.codeAt(false, 5, k % 20);
            case 5 -> tree.count(false, k % 3);
            case 6 -> tree.pool(false, k % 6);
            default -> tree.moved(k);
        };
    }

    private static int build(ShakenTree tree, int k) {
        switch (k % 6) {
            case 0:
                return tree.add();
            case 1:
                return tree.constant(0, 1, k % 100, 0);
            case 2:
                return tree.member(0, 0, 0);
            case 3:
                return tree.code(0, 0, k);
            case 4:
                tree.entry(0, true);
                return 0;
            default:
                tree.clear();
                return 0;
        }
    }

    /** A method that calls itself with one less until 0: eight deep for 7. */
    private static Story descent() {
        return new Story().add().classAt(0, 0).name(0, 5).method(0, 0, 1).number(0, 1).member(0, 1, 1)
                .code(0, 4, 0, 9, 7, 4, 0, 0, 3, 6, 0, 3, 2, 11, 0, 0, 3, 11, 0).entry(0, true).shake();
    }

    private static void callsMakeNothing(String which, Story story, Calls calls) {
        if (!(ManagementFactory.getThreadMXBean() instanceof com.sun.management.ThreadMXBean threads)
                || !threads.isThreadAllocatedMemorySupported()) {
            return;
        }
        long me = Thread.currentThread().getId();
        // The first time takes room for loading classes too, so the least of some times counts.
        long least = Long.MAX_VALUE;
        for (int again = 0; again < 5; again++) {
            ShakenTree tree = story.told();
            int left = Story.MOST_CALLS - story.calls();
            long before = threads.getThreadAllocatedBytes(me);
            for (int k = 0; k < left; k++) {
                answers += calls.make(tree, k);
            }
            least = Math.min(least, threads.getThreadAllocatedBytes(me) - before);
        }
        Check.due(which + " take " + least + " bytes, which is little", 1, least <= MOST_BYTES ? 1 : 0);
    }

    private void walk(Object at) throws IllegalAccessException {
        if (at == null || !objects.add(at)) {
            return;
        }
        if (at.getClass().isArray()) {
            walkArray(at);
            return;
        }
        for (Field f : at.getClass().getDeclaredFields()) {
            if (!Modifier.isStatic(f.getModifiers())) {
                elements++;
                f.setAccessible(true);
                if (!f.getType().isPrimitive()) {
                    walk(f.get(at));
                }
            }
        }
    }

    private void walkArray(Object row) throws IllegalAccessException {
        int length = Array.getLength(row);
        elements += length;
        if (!row.getClass().getComponentType().isPrimitive()) {
            for (int k = 0; k < length; k++) {
                walk(Array.get(row, k));
            }
        }
    }
}

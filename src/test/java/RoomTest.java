import com.sun.management.ThreadMXBean;
import java.lang.management.ManagementFactory;
import java.lang.reflect.Array;
import java.lang.reflect.Field;
import java.lang.reflect.Modifier;
import java.util.ArrayDeque;
import java.util.Collections;
import java.util.IdentityHashMap;
import java.util.Set;

/** What objects make: little in the constructor, hardly anything in a call, and no more the more calls there are. */
final class RoomTest {
    private static final Check check = new Check("RoomTest");
    private static final String LONG_TEXT = "person 3 weight 2; person 14 weight 5; leans if left > right and not wind = 0 "
            + "then step slant to wind else (left + right) / 2 - seat (who + 1) end; "
            + "hears word * 2 + from - slant; rack 3 at 1; swap 0 with 1; turn 2; prop 1; free 1; year 60; year 60;";

    public static void main(String[] args) throws Exception {
        int[] fresh = count(new ItalicsLean());
        System.out.println("a new object: " + fresh[0] + " objects, " + fresh[1] + " fields and elements");
        // Even a run of nothing but new objects, 512 of them, has room.
        check.due(1, "objects of a new one", fresh[0] * 512L < 600000L, true);
        check.due(1, "elements of a new one", fresh[1] * 512L < 7300000L / 2, true);
        ItalicsLean x = new ItalicsLean();
        use(x);
        int[] used = count(x);
        System.out.println("a used object: " + used[0] + " objects, " + used[1] + " fields and elements");
        check.due(1, "objects of a used one", used[0] < 200, true);
        check.due(1, "elements of a used one", used[1] < 20000, true);
        ThreadMXBean threads = (ThreadMXBean) ManagementFactory.getThreadMXBean();
        long id = Thread.currentThread().getId();
        threads.getThreadAllocatedBytes(id);
        long before = threads.getThreadAllocatedBytes(id);
        for (int i = 0; i < 10; i++) {
            asks(x);
        }
        long made = threads.getThreadAllocatedBytes(id) - before;
        System.out.println("some 500 calls made " + made + " bytes");
        check.due(0, "bytes made by calls", made < 4096, true);
        check.finish();
    }

    private static void use(ItalicsLean x) {
        Check.read(x, LONG_TEXT);
        check.due(6, "fault(0)", x.fault(0), 0);
        x.by(0);
        x.played(0);
        x.image();
        for (int i = 0; i < 3; i++) {
            Check.read(x, LONG_TEXT);
            asks(x);
        }
    }

    private static void asks(ItalicsLean x) {
        x.year(60);
        x.ages(5, 40);
        x.played(0);
        x.turn(2);
        x.swap(0, 1);
        x.prop(0, true);
        x.prop(0, false);
        x.undo();
        for (int i = -1; i < 6; i++) {
            x.byTurns(i);
            x.seats(false, i);
            x.foretold(60, i);
            x.still(i, true);
            x.upright(i, 3);
        }
        x.word(3);
        x.page(20, 0);
        x.narrowest(2);
        x.heard(0, 7);
        x.meant(9, 0);
        x.listen(9);
        x.likely(3, 20, 5, true);
        x.first(3, 20, true);
        x.said(0, 3);
        x.whose();
        x.props(false);
        x.image();
        x.back();
    }

    private static int[] count(Object root) throws IllegalAccessException {
        Set<Object> seen = Collections.newSetFromMap(new IdentityHashMap<>());
        ArrayDeque<Object> open = new ArrayDeque<>();
        seen.add(root);
        open.add(root);
        int elements = 0;
        while (!open.isEmpty()) {
            Object one = open.remove();
            if (one.getClass().isArray()) {
                elements += Array.getLength(one);
                for (int i = 0; i < Array.getLength(one) && one instanceof Object[]; i++) {
                    visit(Array.get(one, i), seen, open);
                }
                continue;
            }
            for (Field field : one.getClass().getDeclaredFields()) {
                if (!Modifier.isStatic(field.getModifiers())) {
                    elements++;
                    field.setAccessible(true);
                    if (!field.getType().isPrimitive()) {
                        visit(field.get(one), seen, open);
                    }
                }
            }
        }
        return new int[] {seen.size(), elements};
    }

    private static void visit(Object one, Set<Object> seen, ArrayDeque<Object> open) {
        if (one != null && seen.add(one)) {
            open.add(one);
        }
    }
}

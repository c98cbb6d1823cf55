import java.lang.reflect.Array;
import java.lang.reflect.Field;
import java.lang.reflect.Modifier;
import java.util.ArrayDeque;
import java.util.Collections;
import java.util.Deque;
import java.util.IdentityHashMap;
import java.util.Set;

/** How many objects and arrays one object of the program is made of, and how many fields and elements these have. */
final class RoomTest {
    private static final int MOST_OBJECTS = 1000, MOST_ELEMENTS = 100000, MOST_CALLS = 512;
    private final Check check = new Check("RoomTest");
    private int objects, elements;

    public static void main(String[] args) throws IllegalAccessException {
        RoomTest test = new RoomTest();
        test.measure("a new object", new FewRectangles());
        test.measure("an object of six long rules and four long programs", filled());
        test.measure("an object behind its last call", usedUp());
        test.check.end();
    }

    private static FewRectangles filled() {
        FewRectangles x = new FewRectangles();
        for (int k = 0; k < 6; k++) {
            Face.feed(x, "1" + "+1".repeat(98) + "<row");
            x.rule(0, 707, k, 1);
        }
        for (int k = 0; k < 4; k++) {
            Face.feed(x, "tidy ink;".repeat(22));
            x.text();
        }
        return x;
    }

    /** Rules come and go till the last call: what has gone from the history, too, is kept no more. */
    private static FewRectangles usedUp() {
        FewRectangles x = new FewRectangles();
        for (int calls = 0; calls + 5 <= MOST_CALLS; calls += 5) {
            Face.feed(x, "row<1234");
            x.rule(0, 707, calls % 40, 0);
            x.looks();
            x.drop(0);
        }
        return x;
    }

    private void measure(String what, FewRectangles x) throws IllegalAccessException {
        objects = 0;
        elements = 0;
        Set<Object> met = Collections.newSetFromMap(new IdentityHashMap<>());
        Deque<Object> left = new ArrayDeque<>();
        met.add(x);
        left.add(x);
        while (!left.isEmpty()) {
            objects++;
            for (Object next : parts(left.remove())) {
                if (next != null && met.add(next)) left.add(next);
            }
        }
        System.out.println("RoomTest: " + what + ": " + objects + " objects and arrays, " + elements + " fields and elements");
        check.so(what + " is of few objects", objects <= MOST_OBJECTS);
        check.so(what + " has few fields and elements", elements <= MOST_ELEMENTS);
    }

    private Object[] parts(Object whole) throws IllegalAccessException {
        if (whole.getClass().isArray()) {
            elements += Array.getLength(whole);
            return whole instanceof Object[] ? (Object[]) whole : new Object[0];
        }
        Object[] parts = new Object[whole.getClass().getDeclaredFields().length];
        int n = 0;
        for (Field f : whole.getClass().getDeclaredFields()) {
            if (Modifier.isStatic(f.getModifiers())) continue;
            elements++;
            f.setAccessible(true);
            if (!f.getType().isPrimitive()) parts[n++] = f.get(whole);
        }
        return parts;
    }
}

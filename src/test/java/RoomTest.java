import java.lang.reflect.Array;
import java.lang.reflect.Field;
import java.lang.reflect.Modifier;
import java.util.ArrayDeque;
import java.util.Deque;
import java.util.IdentityHashMap;
import java.util.Map;

/** All calls of a run live in one room: an object is made whole at once, stays as it is, and 512 of them fit. */
public final class RoomTest {
    private static final int CALLS = 512;
    private static final int OBJECTS = 600_000;
    private static final int ELEMENTS = 7_300_000;
    private static final Answers answers = new Answers();

    public static void main(String[] args) throws IllegalAccessException {
        TitheGrid grid = new TitheGrid();
        int[] first = sizeOf(grid);
        answers.dueTrue(first[0] + " objects, as many as there are calls", first[0] * CALLS < OBJECTS);
        answers.dueTrue(first[1] + " elements, as many as there are calls", first[1] * CALLS < ELEMENTS);
        useUp(grid);
        int[] last = sizeOf(grid);
        answers.due("objects behind all calls", first[0], last[0]);
        answers.due("elements behind all calls", first[1], last[1]);
        answers.end();
    }

    private static void useUp(TitheGrid grid) {
        for (int call = 0; call < CALLS; call += 8) {
            grid.add(call % 64, call * 7 % 64, 1 + call % 100);
            grid.setCrowd(2 + call / 8 % 8);
            grid.pay(call / 8 % 40);
            grid.join(grid.joinable());
            grid.move(call / 8 % 40, 63, call % 64);
            grid.cellsWith(2);
            if (call % 3 == 0) {
                grid.undo();
            }
        }
    }

    /** The objects and arrays, and the fields and elements of all of them together. */
    private static int[] sizeOf(Object root) throws IllegalAccessException {
        Map<Object, Boolean> seen = new IdentityHashMap<>();
        Deque<Object> open = new ArrayDeque<>();
        int elements = 0;
        reach(root, seen, open);
        while (!open.isEmpty()) {
            Object object = open.remove();
            elements += object.getClass().isArray() ? reachElements(object, seen, open) : reachFields(object, seen, open);
        }
        return new int[] {seen.size(), elements};
    }

    private static void reach(Object object, Map<Object, Boolean> seen, Deque<Object> open) {
        if (object != null && seen.put(object, true) == null) {
            open.add(object);
        }
    }

    private static int reachElements(Object array, Map<Object, Boolean> seen, Deque<Object> open) {
        int length = Array.getLength(array);
        if (!array.getClass().getComponentType().isPrimitive()) {
            for (int index = 0; index < length; index++) {
                reach(Array.get(array, index), seen, open);
            }
        }
        return length;
    }

    private static int reachFields(Object object, Map<Object, Boolean> seen, Deque<Object> open)
            throws IllegalAccessException {
        int fields = 0;
        for (Field field : object.getClass().getDeclaredFields()) {
            if (Modifier.isStatic(field.getModifiers())) {
                continue;
            }
            fields++;
            if (!field.getType().isPrimitive()) {
                field.setAccessible(true);
                reach(field.get(object), seen, open);
            }
        }
        return fields;
    }
}

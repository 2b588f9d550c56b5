import java.lang.reflect.Array;
import java.lang.reflect.Field;
import java.lang.reflect.Modifier;
import java.util.ArrayDeque;
import java.util.Deque;
import java.util.IdentityHashMap;
import java.util.Map;

/** All calls of one run live in one room: an object takes its room when it is made, and no call takes more. */
public final class RoomTest {
    private static final int OBJECTS_MOST = 400, ELEMENTS_MOST = 90_000;

    private RoomTest() {
    }

    public static void main(String[] args) throws IllegalAccessException {
        HouseFronts fronts = new HouseFronts();
        long[] made = roomOf(fronts);
        System.out.println("RoomTest: " + made[0] + " objects and arrays, " + made[1] + " fields and elements");
        Due.due("few objects", made[0] <= OBJECTS_MOST ? 1 : 0, 1);
        Due.due("few elements", made[1] <= ELEMENTS_MOST ? 1 : 0, 1);
        for (int i = 0; i < 60; i++) {
            useAll(fronts, i);
        }
        long[] used = roomOf(fronts);
        Due.due("objects after all calls", used[0], made[0]);
        Due.due("elements after all calls", used[1], made[1]);
        Due.end("RoomTest");
    }

    private static void useAll(HouseFronts f, int i) {
        f.part(i % 8, 1, false);
        f.part((i + 1) % 8, 1, true);
        f.split(i % 8, i % 2 == 0, i);
        f.fill(i % 8, i % 26, i);
        f.repeat(i % 8, (i + 3) % 8, 1, i % 3 == 0, 1);
        f.only(i % 40, i % 2 == 0, 1, 19);
        f.holds(i % 40, 5, 5);
        f.piece(i % 40, 5, 5, 0, true);
        f.draw(i, 1 + i % 20, 20 - i % 20);
        f.take();
        f.ways(i % 8, 20, 20);
        f.least(i % 8, 20, 20);
        f.board(9, 9);
        f.put(i, i % 26);
        f.parses();
        f.best();
        f.bestStep(i);
        f.stands(i % 8, 0, 9, 8);
    }

    private static long[] roomOf(Object top) throws IllegalAccessException {
        Map<Object, Boolean> seen = new IdentityHashMap<>();
        Deque<Object> open = new ArrayDeque<>();
        open.add(top);
        seen.put(top, true);
        long elements = 0;
        while (!open.isEmpty()) {
            Object one = open.remove();
            if (one.getClass().isArray()) {
                elements += Array.getLength(one);
                for (int i = 0; i < Array.getLength(one) && !one.getClass().getComponentType().isPrimitive(); i++) {
                    meet(Array.get(one, i), seen, open);
                }
                continue;
            }
            for (Field field : one.getClass().getDeclaredFields()) {
                if (!Modifier.isStatic(field.getModifiers())) {
                    elements++;
                    field.setAccessible(true);
                    if (!field.getType().isPrimitive()) {
                        meet(field.get(one), seen, open);
                    }
                }
            }
        }
        return new long[] {seen.size(), elements};
    }

    private static void meet(Object other, Map<Object, Boolean> seen, Deque<Object> open) {
        if (other != null && seen.put(other, true) == null) {
            open.add(other);
        }
    }
}

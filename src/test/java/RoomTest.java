import java.lang.reflect.Array;
import java.lang.reflect.Field;
import java.lang.reflect.Modifier;
import java.util.ArrayDeque;
import java.util.Deque;
import java.util.IdentityHashMap;
import java.util.Map;

/**
 * All calls of one run live in one room: even a run in which each call makes an object anew must fit
 * in it, whatever is asked of the objects.
 */
public final class RoomTest {
    private static final int CALLS = 512;
    private static final long ROOM_OBJECTS = 600_000;
    private static final long ROOM_ELEMENTS = 7_300_000;

    private long objects = 0;
    private long elements = 0;

    public static void main(String[] args) throws IllegalAccessException {
        RoomTest made = new RoomTest();
        made.measure(new FollowTheSun());
        FollowTheSun used = full();
        RoomTest then = new RoomTest();
        then.measure(used);
        boolean fits = made.objects * CALLS <= ROOM_OBJECTS && made.elements * CALLS <= ROOM_ELEMENTS;
        boolean grows = then.objects != made.objects || then.elements != made.elements;
        System.out.println("an object is " + made.objects + " objects and arrays of " + made.elements
            + " fields and elements, and once it is full " + then.objects + " of " + then.elements);
        if (!fits || grows) {
            System.out.println(fits ? "it grows by its calls" : CALLS + " of them do not fit in the room");
            System.exit(1);
        }
    }

    /** An object with as much as the document lets be told, and each question asked. */
    private static FollowTheSun full() {
        FollowTheSun x = new FollowTheSun();
        for (int o = 0; o < 5; o++) {
            x.office(96 * o + 9, 8, 10, 64 * 2 + 63);
        }
        for (int p = 0; p < 8; p++) {
            x.piece(6 * 3, 20, (1 << p) >> 1, p % 5, (p + 1) % 5);
        }
        x.sign('9' << 24 | '9' << 16 | '-' << 8 | 'r');
        x.rule();
        x.site(8, 127, 4, 0);
        x.office(96 * 5 + 9, 8, 10, 64 * 2 + 63);
        for (int i = 0; i < 9; i++) {
            x.pair(i % 3, 3 + i / 3, 5);
        }
        ask(x);
        x.go(500);
        for (int i = 0; i < 3; i++) {
            x.keep(i);
        }
        ask(x);
        return x;
    }

    private static void ask(FollowTheSun x) {
        x.ends();
        x.judge();
        x.one(0, 0, 3);
        x.cheap(0, 0, 2, 400);
        x.edge(0, 0, 3);
        x.lie(0, 0);
        x.homes(15, 0);
        x.whom(999, 0);
        x.worth(0);
        x.wrong(4);
        x.mean(9);
        x.riskiest();
        x.together(0, 0);
        x.sleeps(0, 3);
        x.worst(0, 0, 20);
        x.march(0, 30);
    }

    private void measure(Object root) throws IllegalAccessException {
        Map<Object, Boolean> seen = new IdentityHashMap<>();
        Deque<Object> open = new ArrayDeque<>();
        seen.put(root, true);
        open.add(root);
        while (!open.isEmpty()) {
            Object here = open.remove();
            objects++;
            if (here.getClass().isArray()) {
                measureArray(here, seen, open);
            } else {
                measureFields(here, seen, open);
            }
        }
    }

    private void measureArray(Object array, Map<Object, Boolean> seen, Deque<Object> open) {
        int length = Array.getLength(array);
        elements += length;
        for (int i = 0; i < length && !array.getClass().getComponentType().isPrimitive(); i++) {
            follow(Array.get(array, i), seen, open);
        }
    }

    private void measureFields(Object here, Map<Object, Boolean> seen, Deque<Object> open)
            throws IllegalAccessException {
        for (Field f : here.getClass().getDeclaredFields()) {
            if (Modifier.isStatic(f.getModifiers())) {
                continue;
            }
            elements++;
            f.setAccessible(true);
            if (!f.getType().isPrimitive()) {
                follow(f.get(here), seen, open);
            }
        }
    }

    private static void follow(Object part, Map<Object, Boolean> seen, Deque<Object> open) {
        if (part != null && seen.put(part, true) == null) {
            open.add(part);
        }
    }
}

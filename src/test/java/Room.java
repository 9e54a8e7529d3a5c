import java.lang.reflect.Array;
import java.lang.reflect.Field;
import java.lang.reflect.Modifier;
import java.util.ArrayDeque;
import java.util.Collections;
import java.util.IdentityHashMap;
import java.util.Set;

/** How many objects and arrays an object holds, and how many fields and elements they have. */
final class Room {
    long objects;
    long elements;

    private final Set<Object> seen = Collections.newSetFromMap(new IdentityHashMap<>());
    private final ArrayDeque<Object> open = new ArrayDeque<>();

    private Room() {
    }

    static Room of(Object root) throws Exception {
        Room room = new Room();
        room.meet(root);
        while (!room.open.isEmpty()) {
            room.visit(room.open.pop());
        }
        return room;
    }

    private void meet(Object object) {
        if (object != null && seen.add(object)) {
            open.push(object);
        }
    }

    private void visit(Object object) throws Exception {
        objects++;
        if (object.getClass().isArray()) {
            visitArray(object);
            return;
        }
        for (Field field : object.getClass().getDeclaredFields()) {
            if (Modifier.isStatic(field.getModifiers())) {
                continue;
            }
            elements++;
            if (!field.getType().isPrimitive()) {
                field.setAccessible(true);
                meet(field.get(object));
            }
        }
    }

    private void visitArray(Object array) {
        int length = Array.getLength(array);
        elements += length;
        if (!array.getClass().getComponentType().isPrimitive()) {
            for (int i = 0; i < length; i++) {
                meet(Array.get(array, i));
            }
        }
    }

    @Override
    public String toString() {
        return objects + " objects, " + elements + " elements";
    }
}

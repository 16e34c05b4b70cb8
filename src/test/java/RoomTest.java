import java.lang.reflect.Array;
import java.lang.reflect.Field;
import java.lang.reflect.Modifier;
import java.util.ArrayDeque;
import java.util.Collections;
import java.util.IdentityHashMap;
import java.util.Set;

/** What an object takes of the ROOM of 600,000 objects and 7.3 million fields and elements: so little that a thousand fit. */
public final class RoomTest {
    private static final Check C = Check.begin();

    private static final class Room {
        int objects = 0;
        int fields = 0;
        private final Set<Object> met = Collections.newSetFromMap(new IdentityHashMap<>());
        private final ArrayDeque<Object> todo = new ArrayDeque<>();

        Room(Object first) throws IllegalAccessException {
            meet(first);
            while (!todo.isEmpty()) {
                look(todo.poll());
            }
        }

        private void meet(Object o) {
            if (o != null && met.add(o)) {
                objects++;
                todo.add(o);
            }
        }

        private void look(Object o) throws IllegalAccessException {
            if (o.getClass().isArray()) {
                fields += Array.getLength(o);
                for (int i = 0; !o.getClass().getComponentType().isPrimitive() && i < Array.getLength(o); i++) {
                    meet(Array.get(o, i));
                }
                return;
            }
            for (Field f : o.getClass().getDeclaredFields()) {
                if (Modifier.isStatic(f.getModifiers())) {
                    continue;
                }
                f.setAccessible(true);
                fields++;
                if (!f.getType().isPrimitive()) {
                    meet(f.get(o));
                }
            }
        }
    }

    public static void main(String[] args) throws IllegalAccessException {
        Room fresh = new Room(new OtherDoor());
        System.out.println("an object has " + fresh.fields + " fields and elements in " + fresh.objects + " objects and arrays");
        C.due("a thousand objects fit", fresh.fields <= 7_300 && fresh.objects <= 600 ? 1 : 0, 1);
        Twins.Look[] looks = Twins.ALL;
        for (Twins.Look look : looks) {
            OtherDoor x = Twins.richAndFull();
            look.at(x);
            Room used = new Room(x);
            C.due("fields and elements behind many calls", used.fields, fresh.fields);
            C.due("objects behind many calls", used.objects, fresh.objects);
        }
        C.finish("RoomTest");
    }
}

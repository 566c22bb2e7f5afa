import java.lang.reflect.Array;
import java.lang.reflect.Field;
import java.lang.reflect.InvocationTargetException;
import java.lang.reflect.Method;
import java.lang.reflect.Modifier;
import java.util.ArrayList;
import java.util.Arrays;
import java.util.Collections;
import java.util.IdentityHashMap;
import java.util.List;
import java.util.NoSuchElementException;
import java.util.Set;

/**
 * What an object holds: all calls of a run live in one room of some 600,000 objects and arrays with 7.3 million fields
 * and elements. It is made with the object, and 512 calls leave it as large. (FormTest sees that calls make nothing.)
 */
public final class RoomTest {
    private static final Checks CHECKS = new Checks("RoomTest");
    private static final int CALLS = 512;
    // Five thousand objects could be in the room at once.
    private static final int MOST_OBJECTS = 600_000 / 5_000;
    private static final int MOST_ELEMENTS = 7_300_000 / 5_000;

    private int objects = 0;
    private int elements = 0;

    public static void main(String[] args) throws ReflectiveOperationException {
        RoomTest made = of(new OneTime());
        CHECKS.due("objects of a new one: " + made.objects, made.objects <= MOST_OBJECTS, true);
        CHECKS.due("fields and elements of a new one: " + made.elements, made.elements <= MOST_ELEMENTS, true);
        for (Method method : OneTime.class.getDeclaredMethods()) {
            if (Modifier.isPublic(method.getModifiers())) {
                for (Filling filling : Filling.values()) {
                    callOften(method, filling, made);
                }
            }
        }
        CHECKS.finish();
    }

    private static void callOften(Method method, Filling filling, RoomTest made) throws ReflectiveOperationException {
        OneTime x = filling.make();
        Class<?>[] parameters = method.getParameterTypes();
        for (int i = 0; i < CALLS; i++) {
            Object[] arguments = new Object[parameters.length];
            for (int k = 0; k < arguments.length; k++) {
                arguments[k] = parameters[k] == boolean.class ? (Object) (i % 2 == 0) : (Object) (i % (3 + k));
            }
            call(x, method, arguments);
        }
        RoomTest then = of(x);
        String what = " after " + CALLS + " calls of " + method.getName() + " on " + filling;
        CHECKS.due("objects" + what, then.objects, made.objects);
        CHECKS.due("fields and elements" + what, then.elements, made.elements);
    }

    private static void call(OneTime x, Method method, Object[] arguments) throws ReflectiveOperationException {
        try {
            method.invoke(x, arguments);
        } catch (InvocationTargetException thrown) {
            boolean due = thrown.getCause() instanceof NoSuchElementException;
            CHECKS.due(method.getName() + Arrays.toString(arguments) + " threw " + thrown.getCause(), due, true);
        }
    }

    /** All that can be reached from an object. */
    private static RoomTest of(Object root) throws IllegalAccessException {
        RoomTest room = new RoomTest();
        Set<Object> seen = Collections.newSetFromMap(new IdentityHashMap<>());
        List<Object> open = new ArrayList<>(List.of(root));
        while (!open.isEmpty()) {
            Object next = open.remove(open.size() - 1);
            if (next != null && seen.add(next)) {
                room.objects++;
                room.look(next, open);
            }
        }
        return room;
    }

    private void look(Object at, List<Object> open) throws IllegalAccessException {
        if (at.getClass().isArray()) {
            elements += Array.getLength(at);
            for (int i = 0; !at.getClass().getComponentType().isPrimitive() && i < Array.getLength(at); i++) {
                open.add(Array.get(at, i));
            }
            return;
        }
        for (Field field : at.getClass().getDeclaredFields()) {
            if (!Modifier.isStatic(field.getModifiers())) {
                elements++;
                field.setAccessible(true);
                if (!field.getType().isPrimitive()) {
                    open.add(field.get(at));
                }
            }
        }
    }
}

import java.lang.reflect.Constructor;
import java.lang.reflect.InvocationTargetException;
import java.lang.reflect.Method;
import java.util.HashMap;
import java.util.Map;

/** Calls the methods of the document's face by their names, on any class that has that face. */
final class Calls {
    private final Object object;
    private final Map<String, Method> methods = new HashMap<>();
    private int made = 0;

    Calls(Class<?> face) {
        try {
            Constructor<?> constructor = face.getDeclaredConstructor();
            object = constructor.newInstance();
        } catch (ReflectiveOperationException e) {
            throw new IllegalStateException(e);
        }
        for (Method method : face.getDeclaredMethods()) {
            if (!java.lang.reflect.Modifier.isPrivate(method.getModifiers())) {
                methods.put(method.getName(), method);
            }
        }
    }

    /** How many calls were made so far. */
    int made() {
        return made;
    }

    int call(String name, int... numbers) {
        Method method = methods.get(name);
        if (method == null) {
            throw new IllegalArgumentException("no method " + name);
        }
        Class<?>[] types = method.getParameterTypes();
        if (types.length != numbers.length) {
            throw new IllegalArgumentException(name + " takes " + types.length + " arguments");
        }
        Object[] arguments = new Object[numbers.length];
        for (int i = 0; i < numbers.length; i++) {
            arguments[i] = argument(types[i], numbers[i]);
        }
        made++;
        try {
            return (Integer) method.invoke(object, arguments);
        } catch (IllegalAccessException | InvocationTargetException e) {
            throw new IllegalStateException(name + " failed", e);
        }
    }

    private static Object argument(Class<?> type, int number) {
        if (type == boolean.class) {
            return number != 0;
        }
        if (type == char.class) {
            return (char) number;
        }
        return number;
    }
}

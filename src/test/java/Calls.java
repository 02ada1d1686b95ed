import java.lang.reflect.InvocationTargetException;
import java.lang.reflect.Method;
import java.lang.reflect.Modifier;
import java.util.Map;
import java.util.TreeMap;

/** Calls by their names. */
final class Calls {
    private final Map<String, Method> methods = new TreeMap<>();

    Calls(Class<?> type) {
        for (Method method : type.getDeclaredMethods()) {
            if (Modifier.isPublic(method.getModifiers())) {
                methods.put(method.getName(), method);
            }
        }
    }

    Iterable<Method> all() {
        return methods.values();
    }

    Method named(String name) {
        return methods.get(name);
    }

    /** Returns the exception's class if the call throws. */
    Object made(String name, Object of, Object[] args) {
        try {
            return methods.get(name).invoke(of, args);
        } catch (InvocationTargetException e) {
            return e.getCause().getClass();
        } catch (IllegalAccessException e) {
            throw new IllegalStateException(e);
        }
    }
}

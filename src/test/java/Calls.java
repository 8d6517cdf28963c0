import java.lang.reflect.Method;
import java.util.Arrays;
import java.util.HashMap;
import java.util.Map;
import java.util.concurrent.ConcurrentHashMap;

/** Calls of a method by its name, on the class or on the plain model. */
final class Calls {
    private static final Map<Class<?>, Map<String, Method>> METHODS = new ConcurrentHashMap<>();

    private Calls() { }

    static long answer(Object asked, String name, int... args) {
        Object[] values = new Object[args.length];
        for (int i = 0; i < args.length; i++) {
            values[i] = args[i];
        }
        try {
            return ((Number) method(asked.getClass(), name, args.length).invoke(asked, values)).longValue();
        } catch (ReflectiveOperationException e) {
            throw new IllegalStateException(text(name, args), e);
        }
    }

    /** No two methods of the face have one name. */
    private static Method method(Class<?> type, String name, int arity) {
        Method found = METHODS.computeIfAbsent(type, Calls::methods).get(name);
        if (found == null || found.getParameterCount() != arity) {
            throw new IllegalArgumentException("no call " + name + " with " + arity + " arguments");
        }
        return found;
    }

    private static Map<String, Method> methods(Class<?> type) {
        Map<String, Method> byName = new HashMap<>();
        for (Method m : type.getDeclaredMethods()) {
            byName.put(m.getName(), m);
        }
        return byName;
    }

    static String text(String name, int... args) {
        String list = Arrays.toString(args);
        return name + "(" + list.substring(1, list.length() - 1) + ")";
    }
}

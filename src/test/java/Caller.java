import java.lang.reflect.InvocationTargetException;
import java.lang.reflect.Method;
import java.util.Map;
import java.util.TreeMap;

/**
 * A new object of the class whose methods are called by name. A truth value is given as 1 or 0, a
 * character by its number. The calls are counted, since nothing is promised behind the 512th one.
 */
final class Caller {
    private static final int MOST_CALLS = 512;
    private static final Map<String, Method> METHODS = new TreeMap<>();

    static {
        for (Method method : HeaderSpaceNetwork.class.getDeclaredMethods()) {
            if (java.lang.reflect.Modifier.isPublic(method.getModifiers())) {
                METHODS.put(method.getName(), method);
            }
        }
    }

    private final HeaderSpaceNetwork network = new HeaderSpaceNetwork();
    private int made = 0;

    long call(String name, int... arguments) {
        Method method = METHODS.get(name);
        if (method == null || method.getParameterCount() != arguments.length) {
            throw new IllegalStateException("no method " + name + " with " + arguments.length + " arguments");
        }
        if (left() == 0) {
            throw new IllegalStateException("a test makes more calls of one object than are promised");
        }
        made++;
        Class<?>[] types = method.getParameterTypes();
        Object[] values = new Object[arguments.length];
        for (int i = 0; i < arguments.length; i++) {
            values[i] = value(arguments[i], types[i]);
        }
        try {
            return ((Number) method.invoke(network, values)).longValue();
        } catch (InvocationTargetException | IllegalAccessException e) {
            throw new IllegalStateException(told(name, arguments) + " threw", e);
        }
    }

    /** How many more calls of this object the document promises something about. */
    int left() {
        return MOST_CALLS - made;
    }

    static String told(String name, int... arguments) {
        StringBuilder told = new StringBuilder(name).append('(');
        for (int i = 0; i < arguments.length; i++) {
            told.append(i == 0 ? "" : ", ").append(arguments[i]);
        }
        return told.append(')').toString();
    }

    private static Object value(int argument, Class<?> type) {
        if (type == boolean.class) {
            return argument != 0;
        }
        if (type == char.class) {
            return (char) argument;
        }
        return argument;
    }
}

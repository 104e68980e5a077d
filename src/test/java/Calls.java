import java.lang.reflect.InvocationTargetException;
import java.lang.reflect.Method;
import java.util.ArrayList;
import java.util.Arrays;
import java.util.HashMap;
import java.util.List;
import java.util.Map;

/** Calls methods by name, so that a test can print the call it made. */
final class Calls {
    private static final Map<String, Method> FOUND = new HashMap<>();

    private Calls() {}

    static int call(Object object, String name, int... args) {
        try {
            Object[] values = Arrays.stream(args).boxed().toArray();
            return (Integer) method(object.getClass(), name, args.length).invoke(object, values);
        } catch (InvocationTargetException e) {
            throw new IllegalStateException(text(name, args) + " threw", e.getCause());
        } catch (ReflectiveOperationException e) {
            throw new IllegalStateException(text(name, args), e);
        }
    }

    static String text(String name, int... args) {
        List<String> parts = new ArrayList<>();
        for (int arg : args) {
            parts.add(Integer.toString(arg));
        }
        return name + "(" + String.join(", ", parts) + ")";
    }

    private static Method method(Class<?> type, String name, int parameters) throws NoSuchMethodException {
        String key = type.getName() + "." + name + "/" + parameters;
        Method method = FOUND.get(key);
        if (method == null) {
            Class<?>[] types = new Class<?>[parameters];
            Arrays.fill(types, int.class);
            method = type.getDeclaredMethod(name, types);
            FOUND.put(key, method);
        }
        return method;
    }
}

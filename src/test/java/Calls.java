import java.lang.reflect.Method;
import java.util.ArrayList;
import java.util.Arrays;
import java.util.List;

/** Calls methods by name, so that a test can print the call it made. */
final class Calls {
    private Calls() {}

    static int call(Object object, String name, int... args) {
        try {
            Class<?>[] types = new Class<?>[args.length];
            Arrays.fill(types, int.class);
            Method method = object.getClass().getDeclaredMethod(name, types);
            Object[] values = Arrays.stream(args).boxed().toArray();
            return (Integer) method.invoke(object, values);
        } catch (ReflectiveOperationException e) {
            throw new IllegalStateException(text(name, args), e);
        }
    }

    static String text(String name, int... args) {
        List<String> parts = new ArrayList<>();
        for (int arg : args) {
            parts.add(Integer.toString(arg));
        }
        return name + "(" + String.join(", ", parts) + ")";
    }
}

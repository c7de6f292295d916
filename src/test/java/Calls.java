import java.lang.reflect.InvocationTargetException;
import java.lang.reflect.Method;
import java.lang.reflect.Modifier;
import java.util.Arrays;
import java.util.Map;
import java.util.TreeMap;

/** Calls of the public face, by name. */
final class Calls {
    private static final Map<String, Method> BY_NAME = byName();

    private Calls() {
    }

    private static Map<String, Method> byName() {
        Map<String, Method> methods = new TreeMap<>();
        for (Method method : SqueakShop.class.getDeclaredMethods()) {
            if (Modifier.isPublic(method.getModifiers())) {
                methods.put(method.getName(), method);
            }
        }
        return methods;
    }

    static long answer(SqueakShop shop, String name, long... numbers) {
        Method method = BY_NAME.get(name);
        if (method == null || method.getParameterCount() != numbers.length) {
            throw new IllegalArgumentException("no such call: " + name + Arrays.toString(numbers));
        }
        Object[] given = new Object[numbers.length];
        for (int i = 0; i < numbers.length; i++) {
            boolean isLong = method.getParameterTypes()[i] == long.class;
            given[i] = isLong ? (Object) numbers[i] : (Object) (int) numbers[i];
        }
        try {
            return ((Number) method.invoke(shop, given)).longValue();
        } catch (InvocationTargetException e) {
            throw new IllegalStateException("thrown by " + name + Arrays.toString(numbers), e.getCause());
        } catch (IllegalAccessException e) {
            throw new IllegalStateException(e);
        }
    }
}

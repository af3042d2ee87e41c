import java.lang.reflect.InvocationTargetException;
import java.lang.reflect.Method;
import java.util.HashMap;
import java.util.Map;
import java.util.StringJoiner;

/** One call, said once: it can be made on the program or on the model, and it tells its own text. */
final class Call {
    private static final Map<Class<?>, Map<String, Method>> METHODS = new HashMap<>();

    private final String method;
    private final int[] arguments;

    Call(String method, int... arguments) {
        this.method = method;
        this.arguments = arguments;
    }

    int on(Object target) {
        Object[] values = new Object[arguments.length];
        for (int k = 0; k < values.length; k++) {
            values[k] = arguments[k];
        }
        try {
            return (int) methodsOf(target.getClass()).get(method).invoke(target, values);
        } catch (InvocationTargetException thrown) {
            throw new IllegalStateException(this + " has thrown " + thrown.getCause(), thrown);
        } catch (IllegalAccessException hidden) {
            throw new IllegalStateException(this + " can't be made", hidden);
        }
    }

    // A search for each call would take longer than the call itself.
    private static Map<String, Method> methodsOf(Class<?> type) {
        return METHODS.computeIfAbsent(type, Call::findMethods);
    }

    private static Map<String, Method> findMethods(Class<?> type) {
        Map<String, Method> found = new HashMap<>();
        for (Method method : type.getDeclaredMethods()) {
            found.put(method.getName(), method);
        }
        return found;
    }

    @Override
    public String toString() {
        StringJoiner text = new StringJoiner(", ", method + "(", ")");
        for (int argument : arguments) {
            text.add(Integer.toString(argument));
        }
        return text.toString();
    }
}

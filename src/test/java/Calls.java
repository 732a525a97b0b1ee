import java.lang.reflect.InvocationTargetException;
import java.lang.reflect.Method;
import java.util.HashMap;
import java.util.Map;

/** Calls by name, so that one and the same call can be made on LotSales and on the model. */
final class Calls {
    private static final Map<Class<?>, Map<String, Method>> METHODS = new HashMap<>();

    private Calls() {
    }

    /** What the call answers: a number, "nothing", or the name of the exception's class. */
    static Object answer(Object on, String name, Object... arguments) {
        try {
            Object result = methodOf(on.getClass(), name).invoke(on, arguments);
            return result == null ? "nothing" : result;
        } catch (InvocationTargetException e) {
            return e.getCause().getClass().getSimpleName();
        } catch (IllegalAccessException e) {
            throw new IllegalArgumentException(name, e);
        }
    }

    /** The same for a call as it is written in Java; a character is written as its number. */
    static Object answer(Object on, String call) {
        String name = nameOf(call);
        String inside = call.substring(name.length() + 1, call.length() - 1);
        String[] words = inside.isEmpty() ? new String[0] : inside.split(", ");
        Class<?>[] types = methodOf(on.getClass(), name).getParameterTypes();
        Object[] arguments = new Object[words.length];
        for (int i = 0; i < words.length; i++) {
            arguments[i] = valueOf(words[i], types[i]);
        }
        return answer(on, name, arguments);
    }

    static String nameOf(String call) {
        return call.substring(0, call.indexOf('('));
    }

    private static Object valueOf(String word, Class<?> type) {
        if (type == boolean.class) {
            return Boolean.valueOf(word);
        }
        int number = Integer.parseInt(word);
        return type == char.class ? (Object) (char) number : (Object) number;
    }

    private static Method methodOf(Class<?> type, String name) {
        return METHODS.computeIfAbsent(type, Calls::methodsOf).get(name);
    }

    private static Map<String, Method> methodsOf(Class<?> type) {
        Map<String, Method> methods = new HashMap<>();
        for (Method method : type.getMethods()) {
            methods.put(method.getName(), method);
        }
        return methods;
    }
}

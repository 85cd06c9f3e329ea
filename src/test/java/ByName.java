import java.lang.reflect.InvocationTargetException;
import java.lang.reflect.Method;
import java.util.HashMap;
import java.util.Map;

/** Calls that are made by their names, with their answers as texts. */
final class ByName {

    private ByName() {
    }

    static Map<String, Method> methodsOf(Class<?> type) {
        Map<String, Method> methods = new HashMap<>();
        for (Method method : type.getDeclaredMethods()) {
            methods.put(method.getName(), method);
        }
        return methods;
    }

    /** The answer, "null" of a call that has none, or the name of the exception's class. */
    static String answer(Method method, Object asked, Object[] arguments) throws IllegalAccessException {
        try {
            return String.valueOf(method.invoke(asked, arguments));
        } catch (InvocationTargetException thrown) {
            return thrown.getCause().getClass().getName();
        }
    }
}

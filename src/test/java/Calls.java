import java.lang.reflect.InvocationTargetException;
import java.lang.reflect.Method;
import java.util.HashMap;
import java.util.Map;

/** Calls by name, so that tests can hold them in tables and make them again. */
final class Calls {
    record Call(String name, int... arguments) {
        // A test may change its row of arguments afterwards.
        Call {
            arguments = arguments.clone();
        }

        @Override
        public String toString() {
            StringBuilder shown = new StringBuilder(name);
            for (int argument : arguments) {
                shown.append(' ').append(argument);
            }
            return shown.toString();
        }
    }

    private static final Map<Class<?>, Map<String, Method>> METHODS = new HashMap<>();

    private Calls() { }

    /** What a call answers, "nothing" for void, or the exception's full name behind "throws ". */
    static Object answer(Object target, Call call) {
        Object[] boxed = new Object[call.arguments().length];
        for (int i = 0; i < boxed.length; i++) {
            boxed[i] = call.arguments()[i];
        }
        try {
            Object answer = methodsOf(target.getClass()).get(call.name()).invoke(target, boxed);
            return answer == null ? "nothing" : answer;
        } catch (InvocationTargetException e) {
            return "throws " + e.getCause().getClass().getName();
        } catch (IllegalAccessException e) {
            throw new IllegalStateException(e);
        }
    }

    // No two calls of the face have the same name.
    private static Map<String, Method> methodsOf(Class<?> type) {
        return METHODS.computeIfAbsent(type, t -> {
            Map<String, Method> methods = new HashMap<>();
            for (Method method : t.getMethods()) {
                methods.put(method.getName(), method);
            }
            return methods;
        });
    }
}

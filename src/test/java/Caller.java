import java.lang.reflect.InvocationTargetException;
import java.lang.reflect.Method;
import java.lang.reflect.Modifier;

/** Makes the calls of a run, written as texts like "addEdge 0 1 5", on an object that has methods of these names. */
final class Caller {
    /** Nothing is promised of later calls. */
    private static final int MOST_CALLS = 512;

    private final Object object;
    private int calls;

    Caller(Object object) {
        this.object = object;
    }

    /** What the call answers: its value, "ok" where there is none, or the name of what it throws. */
    String answer(String call) {
        calls++;
        if (calls > MOST_CALLS && object instanceof Pathparade) {
            throw new IllegalStateException("the test makes more calls than the document promises answers to: " + call);
        }
        String[] words = call.trim().split(" +");
        Method method = method(words[0]);
        Class<?>[] types = method.getParameterTypes();
        if (types.length != words.length - 1) {
            throw new IllegalStateException("the test calls wrongly: " + call);
        }
        Object[] values = new Object[types.length];
        for (int i = 0; i < types.length; i++) {
            values[i] = types[i] == boolean.class ? (Object) Boolean.valueOf(words[i + 1]) : Integer.valueOf(words[i + 1]);
        }
        return invoke(method, values);
    }

    private String invoke(Method method, Object[] values) {
        try {
            Object value = method.invoke(object, values);
            return method.getReturnType() == void.class ? "ok" : String.valueOf(value);
        } catch (InvocationTargetException e) {
            return e.getCause().getClass().getSimpleName();
        } catch (IllegalAccessException e) {
            throw new IllegalStateException(e);
        }
    }

    private Method method(String name) {
        for (Method method : object.getClass().getDeclaredMethods()) {
            // What is private is no call, whatever it is named.
            if (method.getName().equals(name) && !Modifier.isPrivate(method.getModifiers())) {
                method.setAccessible(true);
                return method;
            }
        }
        throw new IllegalStateException("no such call: " + name);
    }
}

import java.lang.reflect.Method;

/** Makes a call that is written as text. */
final class Calls {
    private Calls() {
    }

    static long call(ReadOnceRecognizer x, String name, String arguments) throws ReflectiveOperationException {
        String[] given = arguments.isBlank() ? new String[0] : arguments.split(",\\s*");
        Method method = method(name);
        Object[] values = new Object[given.length];
        for (int i = 0; i < given.length; i++) {
            boolean isLong = method.getParameterTypes()[i] == long.class;
            values[i] = isLong ? (Object) Long.valueOf(given[i]) : (Object) Integer.valueOf(given[i]);
        }
        return ((Number) method.invoke(x, values)).longValue();
    }

    private static Method method(String name) {
        for (Method method : ReadOnceRecognizer.class.getMethods()) {
            if (method.getName().equals(name)) {
                return method;
            }
        }
        throw new IllegalArgumentException(name);
    }
}

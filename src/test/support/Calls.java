import java.lang.reflect.InvocationTargetException;
import java.lang.reflect.Method;

/** Calls of a desk that stand in a text, as "take(0, 1, 6)"; a letter may stand there as 'b'. */
final class Calls {
    private static final String[] NO_ARGUMENTS = {};

    private Calls() {
    }

    static Method method(String name) {
        for (Method method : WidenDesk.class.getDeclaredMethods()) {
            if (method.getName().equals(name)) {
                return method;
            }
        }
        throw new IllegalStateException("there is no method " + name);
    }

    static long answer(WidenDesk desk, String name, String arguments) {
        // the "," of a letter ',' is no separator
        String[] parts = arguments.isBlank() ? NO_ARGUMENTS : arguments.split(",(?!')");
        long[] numbers = new long[parts.length];
        for (int i = 0; i < parts.length; i++) {
            numbers[i] = number(parts[i].trim());
        }
        return answer(desk, method(name), numbers);
    }

    static long answer(WidenDesk desk, Method method, long... numbers) {
        Class<?>[] types = method.getParameterTypes();
        if (types.length != numbers.length) {
            throw new IllegalStateException(method + " with " + numbers.length + " arguments");
        }
        Object[] arguments = new Object[numbers.length];
        for (int i = 0; i < numbers.length; i++) {
            if (types[i] == int.class) {
                arguments[i] = Math.toIntExact(numbers[i]);
            } else {
                arguments[i] = numbers[i];
            }
        }
        try {
            return ((Number) method.invoke(desk, arguments)).longValue();
        } catch (InvocationTargetException e) {
            throw new IllegalStateException(method.getName() + " threw " + e.getCause(), e.getCause());
        } catch (IllegalAccessException e) {
            throw new IllegalStateException(e);
        }
    }

    /** An argument or an answer: a number, a long with an L behind it, a letter, or a constant of the class. */
    static long number(String text) {
        if (text.matches("'.'")) {
            return text.charAt(1);
        }
        if (text.matches("[A-Z]+")) {
            return constant(text);
        }
        return Long.parseLong(text.endsWith("L") ? text.substring(0, text.length() - 1) : text);
    }

    private static long constant(String name) {
        try {
            return WidenDesk.class.getField(name).getInt(null);
        } catch (ReflectiveOperationException e) {
            throw new IllegalStateException(e);
        }
    }
}

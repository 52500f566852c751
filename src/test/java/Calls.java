import java.lang.reflect.InvocationTargetException;
import java.lang.reflect.Method;
import java.util.HashMap;
import java.util.Map;

/** Makes calls that are told as texts, such as "close(0,5,2000)"; LOW and HIGH are the least and the greatest number of the parameter's type. */
final class Calls {
    private final Map<String, Method> methods = new HashMap<>();

    Calls(Class<?> type) {
        for (Method method : type.getDeclaredMethods()) {
            if (!method.isSynthetic()) {
                method.setAccessible(true);
                methods.put(method.getName(), method);
            }
        }
    }

    /** What the call returns, or the class of what it throws. */
    Object answer(Object it, String call) {
        int open = call.indexOf('(');
        String inside = call.substring(open + 1, call.indexOf(')'));
        return answer(it, call.substring(0, open), inside.isEmpty() ? new String[0] : inside.split(","));
    }

    Object answer(Object it, String name, String... numbers) {
        Method method = method(name);
        Class<?>[] types = method.getParameterTypes();
        if (types.length != numbers.length) {
            throw new IllegalStateException("not so many numbers: " + name);
        }
        Object[] values = new Object[numbers.length];
        for (int i = 0; i < values.length; i++) {
            values[i] = types[i] == long.class ? (Object) longOf(numbers[i]) : (Object) intOf(numbers[i]);
        }
        return invoke(it, method, values);
    }

    Object ask(Object it, String name, Object... values) {
        return invoke(it, method(name), values);
    }

    Method method(String name) {
        Method method = methods.get(name);
        if (method == null) {
            throw new IllegalStateException("no such call: " + name);
        }
        return method;
    }

    private static Object invoke(Object it, Method method, Object[] values) {
        try {
            return method.invoke(it, values);
        } catch (InvocationTargetException e) {
            return e.getCause().getClass();
        } catch (IllegalAccessException e) {
            throw new IllegalStateException(e);
        }
    }

    private static long longOf(String number) {
        return number.equals("LOW") ? Long.MIN_VALUE : number.equals("HIGH") ? Long.MAX_VALUE : Long.parseLong(number);
    }

    private static int intOf(String number) {
        return number.equals("LOW") ? Integer.MIN_VALUE : number.equals("HIGH") ? Integer.MAX_VALUE : Integer.parseInt(number);
    }
}

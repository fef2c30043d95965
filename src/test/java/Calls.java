import java.lang.reflect.InvocationTargetException;
import java.lang.reflect.Method;

/** Calls that are given as texts, such as "run(0, 9)". */
final class Calls {
    private Calls() {}

    /** What an object answers to a call; the call must be one of a method that the class has. */
    static long answer(StreamFuser x, String call) {
        int open = call.indexOf('(');
        String inside = call.substring(open + 1, call.lastIndexOf(')')).trim();
        String[] words = inside.isEmpty() ? new String[0] : inside.split("\\s*,\\s*");
        Class<?>[] types = new Class<?>[words.length];
        Object[] arguments = new Object[words.length];
        for (int i = 0; i < words.length; i++) {
            types[i] = int.class;
            arguments[i] = Integer.valueOf(words[i]);
        }
        try {
            Method method = StreamFuser.class.getMethod(call.substring(0, open), types);
            return ((Number) method.invoke(x, arguments)).longValue();
        } catch (NoSuchMethodException | IllegalAccessException | InvocationTargetException e) {
            throw new IllegalStateException(call, e);
        }
    }
}

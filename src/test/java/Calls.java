import java.lang.reflect.InvocationTargetException;
import java.lang.reflect.Method;
import java.util.ArrayList;
import java.util.HashMap;
import java.util.List;
import java.util.Map;

/** Calls that are told as lines, "say 0 1 2", and made on the class or on the plain model. */
final class Calls {
    private static final Map<String, Method> METHODS = new HashMap<>();

    private Calls() {
    }

    static long call(Object on, String line) {
        String[] parts = line.split(" ");
        Method method = method(on.getClass(), parts[0]);
        Object[] args = new Object[parts.length - 1];
        for (int i = 0; i < args.length; i++) {
            boolean isLong = method.getParameterTypes()[i] == long.class;
            args[i] = isLong ? (Object) Long.parseLong(parts[i + 1]) : (Object) Integer.parseInt(parts[i + 1]);
        }
        try {
            return ((Number) method.invoke(on, args)).longValue();
        } catch (IllegalAccessException | InvocationTargetException e) {
            throw new IllegalStateException(line + " threw", e);
        }
    }

    private static Method method(Class<?> of, String name) {
        return METHODS.computeIfAbsent(of.getName() + " " + name, key -> {
            for (Method m : of.getDeclaredMethods()) {
                if (m.getName().equals(name)) {
                    return m;
                }
            }
            throw new IllegalArgumentException(key);
        });
    }

    /** A new object behind some calls. */
    static ThroughATrumpet behind(List<String> lines) {
        ThroughATrumpet x = new ThroughATrumpet();
        answers(x, lines);
        return x;
    }

    static long[] answers(Object on, List<String> lines) {
        long[] all = new long[lines.size()];
        for (int k = 0; k < all.length; k++) {
            all[k] = call(on, lines.get(k));
        }
        return all;
    }

    /** The calls that put a text on THE TAPE, eight bytes at a time. */
    static List<String> feeds(String text) {
        List<String> lines = new ArrayList<>();
        for (int from = 0; from < text.length(); from += 8) {
            int n = Math.min(8, text.length() - from);
            long w = 0;
            for (int k = 0; k < n; k++) {
                w = w << 8 | text.charAt(from + k) & 255;
            }
            lines.add("feed " + w + " " + n);
        }
        return lines;
    }
}

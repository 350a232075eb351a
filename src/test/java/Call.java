import java.lang.reflect.InvocationTargetException;
import java.lang.reflect.Method;
import java.lang.reflect.Modifier;
import java.util.HashMap;
import java.util.Map;
import java.util.TreeMap;

/** A call as a text, "road(0, 1, 9)"; min and max stand for the least and the greatest number of an argument's type. */
record Call(String text, Method method, Object[] arguments) {
    static final Map<String, Method> FACE = face();
    private static final Map<String, Call> READ = new HashMap<>();

    private static Map<String, Method> face() {
        Map<String, Method> all = new TreeMap<>();
        for (Method m : FrameCounty.class.getDeclaredMethods()) {
            if (Modifier.isPublic(m.getModifiers())) {
                all.put(m.getName(), m);
            }
        }
        return all;
    }

    static Call of(String text) {
        return READ.computeIfAbsent(text, Call::read);
    }

    private static Call read(String text) {
        int open = text.indexOf('(');
        Method method = FACE.get(text.substring(0, open));
        String inside = text.substring(open + 1, text.length() - 1).strip();
        String[] words = inside.isEmpty() ? new String[0] : inside.split(", *");
        if (method == null || words.length != method.getParameterCount()) {
            throw new IllegalArgumentException("no call: " + text);
        }
        Object[] arguments = new Object[words.length];
        for (int i = 0; i < words.length; i++) {
            boolean isLong = method.getParameterTypes()[i] == long.class;
            if (isLong) {
                arguments[i] = words[i].equals("min") ? Long.MIN_VALUE : words[i].equals("max") ? Long.MAX_VALUE
                    : Long.parseLong(words[i]);
            } else {
                arguments[i] = words[i].equals("min") ? Integer.MIN_VALUE : words[i].equals("max") ? Integer.MAX_VALUE
                    : Integer.parseInt(words[i]);
            }
        }
        return new Call(text, method, arguments);
    }

    long on(FrameCounty county) {
        try {
            return ((Number) method.invoke(county, arguments)).longValue();
        } catch (IllegalAccessException e) {
            throw new IllegalStateException(e);
        } catch (InvocationTargetException e) {
            throw new IllegalStateException(text + " threw", e.getCause());
        }
    }
}

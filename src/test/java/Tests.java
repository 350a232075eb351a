import java.lang.reflect.InvocationTargetException;
import java.lang.reflect.Method;
import java.lang.reflect.Modifier;
import java.util.Arrays;
import java.util.Comparator;

/** Runs every method of a test whose name begins with "promise": none can be forgotten. */
final class Tests {
    private Tests() {
    }

    static void runAll(Class<?> test, Due due) {
        Method[] methods = test.getDeclaredMethods();
        Arrays.sort(methods, Comparator.comparing(Method::getName));
        int run = 0;
        for (Method m : methods) {
            if (m.getName().startsWith("promise") && m.getParameterCount() == 0 && Modifier.isStatic(m.getModifiers())) {
                due.under(m.getName());
                invoke(m);
                run++;
            }
        }
        due.under("");
        due.holds("there are tests in " + test.getName(), run > 0);
    }

    private static void invoke(Method m) {
        try {
            m.setAccessible(true);
            m.invoke(null);
        } catch (IllegalAccessException e) {
            throw new IllegalStateException(e);
        } catch (InvocationTargetException e) {
            throw new IllegalStateException(m.getName() + " ended too early", e.getCause());
        }
    }
}

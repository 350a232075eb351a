import java.lang.reflect.Method;
import java.util.List;
import java.util.Set;
import java.util.TreeSet;

/** Each of the promises 1 to 45 has tests of its bounds; they are found by their names, as "promise22TheFortiethAndOneMore". */
public final class EveryPromiseTest {
    private static final Due due = new Due("EveryPromiseTest");
    private static final int PROMISES = 45;
    private static final List<Class<?>> TESTS = List.of(NightsBoundsTest.class, ShopsBoundsTest.class, TextsBoundsTest.class,
        RaidsBoundsTest.class, PersonsBoundsTest.class, OathsBoundsTest.class, SoldiersBoundsTest.class, HostBoundsTest.class);

    public static void main(String[] args) {
        Set<String> numbers = new TreeSet<>();
        for (Class<?> test : TESTS) {
            for (Method m : test.getDeclaredMethods()) {
                if (m.getName().startsWith("promise")) {
                    numbers.add(m.getName().substring("promise".length(), "promise".length() + 2));
                }
            }
        }
        for (int promise = 1; promise <= PROMISES; promise++) {
            due.holds("promise " + promise + " has a test of its bounds", numbers.contains(String.format("%02d", promise)));
        }
        due.is("promises with tests", numbers.size(), PROMISES);
        due.is("calls of the face", Call.FACE.size(), PROMISES - 1);
        due.end();
    }
}

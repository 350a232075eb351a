import java.lang.reflect.InvocationTargetException;
import java.lang.reflect.Method;
import java.util.ArrayList;
import java.util.List;

/**
 * All promises: each call with each choice of its arguments among the least, the greatest and those about 0, in a new,
 * in some and in the full county: nothing is thrown, and what is answered is what the Model answers.
 * So is all that these counties tell.
 */
public final class WildNumbersTest {
    private static final Due due = new Due("WildNumbersTest");
    private static final int[] NUMBERS = {Integer.MIN_VALUE, -1, 0, 1, 5, Integer.MAX_VALUE};
    private static final long[] LONGS = {Long.MIN_VALUE, Integer.MIN_VALUE, -1, 0, 1, 5, Integer.MAX_VALUE, Long.MAX_VALUE};

    public static void main(String[] args) throws Exception {
        for (int c = 0; c < Counties.ALL.size(); c++) {
            for (Method call : Call.FACE.values()) {
                List<Object[]> all = new ArrayList<>();
                choose(call.getParameterTypes(), new ArrayList<>(), all);
                askInTurn(c, call, all);
            }
            for (List<String> part : Tellings.PARTS) {
                tellAll(c, part);
            }
        }
        due.end();
    }

    private static void choose(Class<?>[] types, List<Object> chosen, List<Object[]> to) {
        if (chosen.size() == types.length) {
            to.add(chosen.toArray());
            return;
        }
        boolean isLong = types[chosen.size()] == long.class;
        for (int i = 0; i < (isLong ? LONGS.length : NUMBERS.length); i++) {
            List<Object> more = new ArrayList<>(chosen);
            more.add(isLong ? (Object) LONGS[i] : (Object) NUMBERS[i]);
            choose(types, more, to);
        }
    }

    /** As many calls as an object has room for are asked of one, then of a new one. */
    private static void askInTurn(int c, Method call, List<Object[]> all) throws Exception {
        List<String> made = Counties.ALL.get(c);
        Method other = Model.class.getMethod(call.getName(), call.getParameterTypes());
        FrameCounty county = null;
        Model model = null;
        int room = 0;
        for (Object[] arguments : all) {
            if (room == 0) {
                county = Counties.made(made);
                model = modelOf(made);
                room = Run.MOST_CALLS - made.size();
            }
            room--;
            String name = "in " + Counties.NAMES[c] + " " + call.getName() + java.util.Arrays.toString(arguments);
            long want = ((Number) other.invoke(model, arguments)).longValue();
            try {
                due.is(name, ((Number) call.invoke(county, arguments)).longValue(), want);
            } catch (InvocationTargetException e) {
                due.holds(name + " threw " + e.getCause(), false);
            }
        }
    }

    private static void tellAll(int c, List<String> part) throws Exception {
        FrameCounty county = Counties.made(Counties.ALL.get(c));
        Model model = modelOf(Counties.ALL.get(c));
        for (String text : part) {
            due.is("in " + Counties.NAMES[c] + " " + text, Call.of(text).on(county), answer(model, Call.of(text)));
        }
    }

    private static long answer(Model model, Call call) throws Exception {
        Method other = Model.class.getMethod(call.method().getName(), call.method().getParameterTypes());
        return ((Number) other.invoke(model, call.arguments())).longValue();
    }

    private static Model modelOf(List<String> made) throws Exception {
        Model model = new Model();
        for (String text : made) {
            answer(model, Call.of(text));
        }
        return model;
    }
}

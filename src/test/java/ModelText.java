import java.util.ArrayDeque;
import java.util.Deque;
import java.util.List;
import java.util.function.ToIntFunction;
import java.util.regex.Matcher;
import java.util.regex.Pattern;

/** A text read without recursion: tokens by a pattern, signs put on a stack till weaker ones come. */
final class ModelText {
    private static final Pattern TOKEN = Pattern.compile("[ \n]*([a-z]+|[0-9]+|.|\\z)", Pattern.DOTALL);
    private static final List<String> NAMES = List.of("kind", "width", "week", "rent", "words", "paid");
    private static final List<String> BY_STRENGTH = List.of("(", "or", "and", "not", "< =", "+ -", "*", "neg");

    /** What is open between two brackets. */
    private static final class Level {
        int nots, minuses;
        boolean compared;
        boolean notMayStand = true;
    }

    /** The place of the fault; -1: none. */
    int fault = -1;
    private final Matcher matcher;
    private String token;
    private int place;
    private ToIntFunction<int[]> price, hold;

    ModelText(String text) {
        matcher = TOKEN.matcher(text);
        step();
        price = part("price");
        hold = part("hold");
        if (fault < 0 && !token.isEmpty()) fault = place;
    }

    int price(int[] names) {
        return price.applyAsInt(names);
    }

    int hold(int[] names) {
        return hold.applyAsInt(names);
    }

    private void step() {
        matcher.lookingAt();
        token = matcher.group(1);
        place = matcher.start(1);
        matcher.region(matcher.end(), matcher.regionEnd());
    }

    private ToIntFunction<int[]> part(String key) {
        if (fault >= 0) return null;
        if (!token.equals(key)) {
            fault = place;
            return null;
        }
        step();
        return expression();
    }

    private static int strength(String sign) {
        for (int i = 0; i < BY_STRENGTH.size(); i++) {
            if (List.of(BY_STRENGTH.get(i).split(" ")).contains(sign)) return i;
        }
        return -1;
    }

    private ToIntFunction<int[]> expression() {
        Deque<Level> levels = new ArrayDeque<>();
        Deque<ToIntFunction<int[]>> values = new ArrayDeque<>();
        Deque<String> signs = new ArrayDeque<>();
        levels.push(new Level());
        boolean wantsOne = true;
        for (;;) {
            Level level = levels.peek();
            String t = token;
            boolean full = levels.stream().mapToInt(l -> l.nots + l.minuses).sum() + levels.size() - 1 >= 5;
            if (wantsOne && (t.matches("[0-9]{1,4}") || NAMES.contains(t))) {
                int name = NAMES.indexOf(t);
                int number = name < 0 ? Integer.parseInt(t) : 0;
                values.push(names -> name < 0 ? number : names[name]);
                level.minuses = 0;
                wantsOne = false;
            } else if (wantsOne && t.equals("-") && !full) {
                signs.push("neg");
                level.minuses++;
                level.notMayStand = false;
            } else if (wantsOne && t.equals("not") && level.notMayStand && !full) {
                signs.push("not");
                level.nots++;
            } else if (wantsOne && t.equals("(") && !full) {
                signs.push("(");
                levels.push(new Level());
            } else if (!wantsOne && t.matches("[-+*]")) {
                put(t, signs, values);
                level.notMayStand = false;
                wantsOne = true;
            } else if (!wantsOne && t.matches("[<=]") && !level.compared) {
                put(t, signs, values);
                level.notMayStand = false;
                level.compared = true;
                wantsOne = true;
            } else if (!wantsOne && t.matches("or|and")) {
                put(t, signs, values);
                levels.pop();
                levels.push(new Level());
                wantsOne = true;
            } else if (!wantsOne && t.equals(")") && levels.size() > 1) {
                work(1, signs, values);
                signs.pop();
                levels.pop();
                levels.peek().minuses = 0;
            } else if (!wantsOne && t.equals(";") && levels.size() == 1) {
                work(1, signs, values);
                step();
                return values.pop();
            } else {
                fault = place;
                return null;
            }
            step();
        }
    }

    private static void put(String sign, Deque<String> signs, Deque<ToIntFunction<int[]>> values) {
        work(strength(sign), signs, values);
        signs.push(sign);
    }

    /** Does all that stands on the stack and is not weaker. */
    private static void work(int least, Deque<String> signs, Deque<ToIntFunction<int[]>> values) {
        while (!signs.isEmpty() && strength(signs.peek()) >= least) {
            String sign = signs.pop();
            ToIntFunction<int[]> b = values.pop();
            if (sign.equals("neg")) {
                values.push(n -> 0 - b.applyAsInt(n));
            } else if (sign.equals("not")) {
                values.push(n -> b.applyAsInt(n) == 0 ? 1 : 0);
            } else {
                ToIntFunction<int[]> a = values.pop();
                values.push(n -> two(sign, a.applyAsInt(n), b.applyAsInt(n)));
            }
        }
    }

    private static int two(String sign, int a, int b) {
        return switch (sign) {
            case "or" -> a != 0 || b != 0 ? 1 : 0;
            case "and" -> a != 0 && b != 0 ? 1 : 0;
            case "<" -> a < b ? 1 : 0;
            case "=" -> a == b ? 1 : 0;
            case "+" -> a + b;
            case "-" -> a - b;
            default -> a * b;
        };
    }
}

import java.util.ArrayList;
import java.util.HashMap;
import java.util.List;
import java.util.Map;
import java.util.function.IntFunction;

/**
 * Everything that other calls tell of a county, in parts that have room behind what makes a county. What has no
 * call of its own is told by telling it anew, as what a road took: two like counties tell that alike, too.
 */
final class Tellings {
    static final List<List<String>> PARTS = List.of(shops(), frames(), nightsAndRoads(), raids(), persons(), words(),
        oaths(), bargains(), newOnes(), texts(), sheets(0), sheets(2));
    private static final Map<Made, long[]> TOLD = new HashMap<>();

    /** A part of what a county tells that these calls make. */
    private record Made(List<String> calls, int part) {
    }

    private Tellings() {
    }

    /** Whether a county tells all of a part as one does that is made by the same calls, without what came behind. */
    static boolean isAsMade(FrameCounty county, List<String> made, int part) {
        long[] want = TOLD.computeIfAbsent(new Made(made, part), key -> tell(Counties.made(made), part));
        return java.util.Arrays.equals(want, tell(county, part));
    }

    private static long[] tell(FrameCounty county, int part) {
        return PARTS.get(part).stream().mapToLong(call -> Call.of(call).on(county)).toArray();
    }

    private static void each(List<String> to, int from, int till, IntFunction<String> call) {
        for (int i = from; i <= till; i++) {
            to.add(call.apply(i));
        }
    }

    private static void counts(List<String> to) {
        each(to, 0, 15, i -> "count(" + i + ")");
    }

    private static List<String> shops() {
        List<String> to = new ArrayList<>();
        counts(to);
        each(to, 0, 7, i -> "keeps(" + i + ")");
        each(to, 0, 7, i -> "earns(" + i + ")");
        each(to, 0, 19, i -> "says(0, " + i + ")");
        each(to, 0, 11, i -> "says(1, " + i + ")");
        each(to, 0, 7, i -> "pays(" + i + ", " + i + ")");
        each(to, 0, 7, i -> "earns(" + i + ")");
        each(to, 0, 19, i -> "taken(" + i + ", 0)");
        return to;
    }

    private static List<String> frames() {
        List<String> to = new ArrayList<>();
        each(to, 0, 159, i -> "frameTold(" + i / 8 + ", " + i % 8 + ")");
        return to;
    }

    private static List<String> nightsAndRoads() {
        List<String> to = new ArrayList<>();
        counts(to);
        for (int a = 0; a < 8; a++) {
            for (int b = 0; b < 8; b++) {
                if (a != b) {
                    to.add("far(" + a + ", " + b + ", " + (a < b ? 0 : 10) + ")");
                    to.add("road(" + a + ", " + b + ", " + (1 + (a + b) % 9) + ")");
                }
            }
        }
        to.add("pass(60)");
        to.add("pass(1)");
        return to;
    }

    private static List<String> raids() {
        List<String> to = new ArrayList<>(List.of("pattern(0)", "pattern(1)", "left()", "form(0)", "form(1)", "form(40)"));
        for (int form : new int[] {0, 25, 99, 145, 230, 299, 300, 330, 401, 509, 601, 701, 800, 950, 1101, 1203, 1303, 1499}) {
            to.add("sends(" + form + ")");
        }
        each(to, 0, 19, i -> "mend(" + i + ", 0)");
        to.add("pattern(1)");
        each(to, 0, 19, i -> "mend(" + i + ", 2)");
        to.add("pattern(1)");
        each(to, 0, 19, i -> "mend(" + i + ", 1)");
        each(to, 0, 19, i -> "raid(" + i + ", " + i % 12 + ")");
        to.addAll(List.of("pattern(0)", "pattern(1)", "left()", "count(3)", "count(14)"));
        return to;
    }

    private static List<String> persons() {
        List<String> to = new ArrayList<>();
        for (int known : new int[] {0, 40, 399}) {
            for (int when : new int[] {3, 804, 4002, 18006, 39911}) {
                each(to, 0, 5, i -> "canBe(" + 2 * i + ", " + (i * 3 + when) % 8 + ", " + when + ", " + known + ")");
            }
            each(to, 0, 29, i -> "suspects(" + i + ", " + known + ")");
        }
        return to;
    }

    private static List<String> words() {
        List<String> to = new ArrayList<>();
        for (int known : new int[] {0, 8, 39, 40, 180, 398, 399}) {
            to.add("falseWords(" + known + ")");
            to.add("held(" + known + ")");
            each(to, 0, 5, i -> "paid(" + i + ", 0, " + known + ")");
            each(to, 0, 5, i -> "paid(" + i + ", 1, " + known + ")");
            each(to, 0, 5, i -> "hangs(" + i + ", " + known + ")");
        }
        return to;
    }

    private static List<String> oaths() {
        List<String> to = new ArrayList<>();
        to.add("began()");
        for (int night : new int[] {0, 8, 39, 40, 180, 399}) {
            each(to, 0, 11, i -> "sworn(" + (1 << i) + ", " + night + ")");
        }
        each(to, 0, 11, i -> "taker(" + i + ", " + 30 * i + ")");
        to.add("began()");
        each(to, 0, 11, i -> "taker(" + i + ", -1)");
        to.add("began()");
        return to;
    }

    private static List<String> bargains() {
        List<String> to = new ArrayList<>();
        for (int night : new int[] {0, 10}) {
            each(to, 0, 8, i -> "parties(" + i % 5 + ", " + 2 * i + ", " + night + ", " + i % 2 + ")");
        }
        for (int least : new int[] {-999, -40, 0, 6, 40}) {
            each(to, 0, 5, i -> "offer(" + least + ", " + (20 * i - 60) + ")");
            each(to, 0, 5, i -> "offer(" + (20 * i - 60) + ", " + least + ")");
        }
        for (int n = 1; n <= 5; n++) {
            int weeks = n;
            each(to, -1, n - 1, i -> "plan(" + weeks + ", " + i + ")");
        }
        for (int a = 0; a < 8; a++) {
            int one = a;
            each(to, a + 1, 7, i -> "against(" + i + ", " + one + ")");
        }
        each(to, 0, 9, i -> "offer(" + (20 * i - 99) + ", -99)");
        return to;
    }

    /** What comes new has the next number, or there is no place for it; then all is counted. */
    private static List<String> newOnes() {
        List<String> to = new ArrayList<>();
        each(to, 0, 8, i -> "shop(" + i % 8 + ", 7)");
        each(to, 0, 20, i -> "frame(" + i % 6 + ", " + i % 8 + ", 33, 8)");
        each(to, 0, 12, i -> "person(" + i % 8 + ")");
        each(to, 0, 20, i -> "raid(" + i + ", 3)");
        each(to, 0, 11, i -> "word(" + i % 6 + ", " + i + ", 1, 2)");
        each(to, 0, 11, i -> "seen(" + i + ", 5, 0, 3)");
        each(to, 0, 11, i -> "meeting(" + i + ", " + (i + 1) % 12 + ", 0)");
        each(to, 0, 8, i -> "clause(" + i + ", 1)");
        each(to, 0, 6, i -> "row(" + 7 * i + ")");
        counts(to);
        to.addAll(List.of("pattern(0)", "held(0)", "falseWords(0)", "suspects(1, 0)", "offer(0, 0)", "plan(5, -1)",
            "sworn(1, 399)", "began()", "says(0, 0)", "earns(0)", "earns(7)"));
        return to;
    }

    /** THE TAPE is told by what it becomes as a text, with what is fed behind it. */
    private static List<String> texts() {
        List<String> to = new ArrayList<>();
        counts(to);
        to.addAll(List.of("shop(0, 30)", "frame(5, 0, 31, 11)", "person(0)"));
        for (int t = 5; t >= 0; t--) {
            to.addAll(List.of("force(" + t + ")", "says(0, 0)", "says(1, 0)", "keeps(0)", "held(0)"));
        }
        to.addAll(Tape.calls("ce 1;hold 1;"));
        to.add("text()");
        counts(to);
        for (int t = 0; t < 5; t++) {
            to.addAll(Tape.calls("price 3;hold 3;"));
            to.add("text()");
        }
        each(to, 0, 20, i -> "feed(8, " + i + ")");
        to.addAll(List.of("text()", "count(10)", "count(11)", "force(0)"));
        return to;
    }

    /** What stands in two of the sheets, told by shops that pay by them. */
    private static List<String> sheets(int first) {
        List<String> to = new ArrayList<>();
        each(to, 0, 7, i -> "shop(" + i + ", 50)");
        for (int s = first; s < first + 2; s++) {
            int sheet = s;
            each(to, 0, 2, i -> "paysRow(" + sheet + ", " + i + ", 0, 0)");
            for (int i : new int[] {0, 1, 3, 4, 5, 7, 8, 9, 39, 40, 41}) {
                to.add("copy(" + s + ", " + i + ", " + s + ", " + i + ", 0)");
            }
            for (int from = 0; from < 40; from += 8) {
                to.add("paysRow(" + s + ", " + s % 3 + ", " + from + ", 8)");
                each(to, 0, 7, i -> "pays(" + i + ", 50)");
            }
        }
        return to;
    }
}

import java.util.ArrayList;
import java.util.HashSet;
import java.util.List;
import java.util.Set;
import java.util.TreeSet;

/**
 * Of each argument of each call, in some county: the last number on both sides that is still taken, the first that no
 * longer is, and wild ones up to the least and the greatest of its type. Behind a refused call all is told as before.
 */
public final class EdgesTest {
    private static final Due due = new Due("EdgesTest");
    private static final long NO = FrameCounty.NO;
    private static final int NONE = -1, BAD = -2, STATE = -3, NO_TAKER = -5;
    private static final int MISSING = -11, OUTSIDE = -12, UNLIKE = -13, BELOW_ZERO = -14;
    private static final Set<String> covered = new HashSet<>();

    public static void main(String[] args) {
        Tests.runAll(EdgesTest.class, due);
        for (var call : Call.FACE.entrySet()) {
            for (int i = 0; i < call.getValue().getParameterCount(); i++) {
                due.holds("argument " + i + " of " + call.getKey() + " has an edge", covered.contains(call.getKey() + " " + i));
            }
        }
        due.end();
    }

    private static void edge(String pattern, long least, long answer, long most, long lastAnswer, long refusal) {
        edge(pattern, least, answer, most, lastAnswer, refusal, refusal);
    }

    /** The ? is the argument's place; numbers below the least are refused by one number, those above the most by another. */
    private static void edge(String pattern, long least, long answer, long most, long lastAnswer, long below, long above) {
        cover(pattern);
        taken(with(pattern, least), answer);
        taken(with(pattern, most), lastAnswer);
        refusedNext(with(pattern, least - 1), below);
        refusedNext(with(pattern, most + 1), above);
        List<String> wild = new ArrayList<>();
        List<Long> refusals = new ArrayList<>();
        for (long n : wildBeside(isLong(pattern), least, most)) {
            boolean isNoRoad = pattern.equals("road(0, 1, ?)") && n == 99;
            if (!isNoRoad) {
                wild.add(with(pattern, n));
                refusals.add(n < least ? below : above);
            }
        }
        refusedWild(wild, refusals);
    }

    /** Any number at all is taken. */
    private static void free(String pattern, long answer) {
        cover(pattern);
        taken(pattern.replace("?", "min"), answer);
        taken(pattern.replace("?", "max"), answer);
        for (int n : new int[] {Integer.MIN_VALUE, -65537, -257, -129, -1, 0, 1, 128, 256, 32768, 65536, Integer.MAX_VALUE}) {
            taken(with(pattern, n), answer);
        }
    }

    private static void cover(String pattern) {
        String ahead = pattern.substring(0, pattern.indexOf('?'));
        covered.add(pattern.substring(0, pattern.indexOf('(')) + " " + ahead.chars().filter(c -> c == ',').count());
    }

    private static String with(String pattern, long n) {
        return pattern.replace("?", String.valueOf(n));
    }

    private static boolean isLong(String pattern) {
        return pattern.startsWith("row(");
    }

    private static void taken(String call, long answer) {
        due.is(call, Call.of(call).on(Counties.made(Counties.SOME)), answer);
    }

    private static void refusedNext(String call, long refusal) {
        for (int part = 0; part < Tellings.PARTS.size(); part++) {
            FrameCounty x = Counties.made(Counties.SOME);
            due.is(call, Call.of(call).on(x), refusal);
            due.holds("all is as it was behind " + call, Tellings.isAsMade(x, Counties.SOME, part));
        }
    }

    private static void refusedWild(List<String> calls, List<Long> refusals) {
        for (int part = 0; part < Tellings.PARTS.size(); part++) {
            FrameCounty x = Counties.made(Counties.SOME);
            for (int i = 0; i < calls.size(); i++) {
                due.is(calls.get(i), Call.of(calls.get(i)).on(x), refusals.get(i));
            }
            due.holds("all is as it was behind wild numbers as " + calls.get(0), Tellings.isAsMade(x, Counties.SOME, part));
        }
    }

    /** Numbers that would be taken, if only some of their bits were looked at, are among them. */
    private static Set<Long> wildBeside(boolean isLong, long least, long most) {
        Set<Long> wild = new TreeSet<>();
        for (int bit = 3; bit < (isLong ? 64 : 32); bit++) {
            for (long n : new long[] {least + (1L << bit), most + (1L << bit), least - (1L << bit)}) {
                wild.add(isLong ? n : (long) (int) n);
            }
        }
        for (long n : new long[] {0, 1, 2, 100}) {
            wild.add((isLong ? Long.MIN_VALUE : Integer.MIN_VALUE) + n);
            wild.add((isLong ? Long.MAX_VALUE : Integer.MAX_VALUE) - n);
        }
        wild.removeIf(n -> n >= least && n <= most);
        return wild;
    }

    static void promise02() {
        edge("pass(?)", 1, 41, 60, 100, BAD);
    }

    static void promise03() {
        edge("road(?, 5, 4)", 0, 99, 7, 99, BAD);
        edge("road(5, ?, 4)", 0, 99, 7, 99, BAD);
        edge("road(0, 1, ?)", 1, 3, 9, 3, BAD);
        taken("road(0, 1, 99)", 3);
        refusedNext("road(0, 1, 98)", BAD);
        refusedNext("road(0, 1, 100)", BAD);
        refusedNext("road(5, 5, 4)", BAD);
    }

    static void promise04() {
        edge("far(?, 1, 10)", 0, 3, 7, 99, BAD);
        edge("far(1, ?, 10)", 0, 3, 7, 99, BAD);
        edge("far(0, 1, ?)", 0, 4, 399, 3, BAD);
    }

    static void promise05() {
        edge("shop(?, 5)", 0, 4, 7, 4, BAD);
        edge("shop(5, ?)", 0, 4, 99, 4, BAD);
    }

    static void promise06() {
        edge("pays(?, 7)", 0, 40, 3, 0, BAD);
        edge("pays(0, ?)", 0, 40, 99, 40, BAD);
    }

    static void promise07() {
        edge("frame(?, 0, 20, 1)", 0, 8, 5, 8, BAD);
        edge("frame(0, ?, 20, 1)", 0, 8, 3, 8, BAD);
        edge("frame(0, 0, ?, 1)", 10, 8, 60, 8, BAD);
        edge("frame(0, 0, 20, ?)", 0, 8, 99, 8, BAD);
    }

    static void promise08() {
        edge("frameTold(?, 2)", 0, 30, 7, 60, NO);
        edge("frameTold(4, ?)", 0, 4, 7, 95, NO);
    }

    static void promise09() {
        edge("mend(?, 2)", 0, 1, 7, 1, BAD);
        edge("mend(1, ?)", 0, 1, 2, STATE, BAD);
        taken("mend(6, 1)", 1);
        refusedNext("mend(1, 1)", STATE);
        refusedNext("mend(1, 2)", STATE);
        refusedNext("mend(0, 0)", STATE);
        refusedNext("mend(0, 1)", STATE);
        refusedNext("mend(6, 0)", STATE);
        refusedNext("mend(6, 2)", STATE);
    }

    static void promise10() {
        edge("keeps(?)", 0, 0, 3, 0, BAD);
        taken("keeps(1)", 1);
    }

    static void promise11() {
        edge("earns(?)", 0, 115, 3, -160, NO);
    }

    static void promise12() {
        edge("feed(?, 32)", 1, 4, 8, 11, BAD);
        free("feed(8, ?)", 11);
        free("feed(1, ?)", 4);
    }

    static void promise14() {
        edge("force(?)", 0, 1, 2, 1, BAD);
    }

    static void promise15() {
        edge("says(?, 0)", 0, 60, 1, -7, NO);
        edge("says(0, ?)", 0, 60, 7, 115, NO);
        edge("says(1, ?)", 0, -7, 4, -7, NO);
        taken("says(1, 1)", 2 + 999 + 20 - 7);
    }

    static void promise16() {
        edge("raid(?, 3)", 0, 4, 7, 4, BAD);
        edge("raid(0, ?)", 0, 4, 11, 4, BAD);
        refusedNext("raid(1, 3)", STATE);
        refusedNext("raid(2, 3)", STATE);
        refusedNext("raid(6, 3)", STATE);
    }

    static void promise17() {
        edge("pattern(?)", 0, 2 + 8, 1, 1, BAD);
    }

    // Widths above 30 .. 44 and kinds above 0 part frames 1 and 3 from 0.
    static void promise19() {
        edge("form(?)", 0, 230, 15, 800, NONE);
        taken("left()", 16);
    }

    static void promise20() {
        edge("sends(?)", 0, NONE, 1499, NONE, BAD);
        taken("sends(1)", NONE);
        taken("sends(299)", NONE);
        taken("sends(1498)", NONE);
        taken("sends(1400)", 2);
    }

    static void promise21() {
        edge("person(?)", 0, 5, 7, 5, BAD);
    }

    static void promise22() {
        edge("seen(?, 3, 8, 1)", 0, 6, 4, 6, BAD);
        edge("seen(0, ?, 8, 1)", 0, 6, 7, 6, BAD);
        edge("seen(0, 3, ?, 1)", 0, 6, 40, 6, BAD);
        edge("seen(0, 3, 8, ?)", 0, 6, 11, 6, BAD);
    }

    static void promise23() {
        edge("canBe(?, 0, 0, 40)", 0, 1, 4, 0, BAD);
        edge("canBe(0, ?, 0, 40)", 0, 1, 7, 0, BAD);
        edge("canBe(0, 0, ?, 40)", 0, 1, 39911, 1, BAD);
        edge("canBe(0, 0, 0, ?)", 0, 1, 40, 1, BAD);
        taken("canBe(0, 0, 11, 40)", 1);
        refusedNext("canBe(0, 0, 12, 40)", BAD);
        refusedNext("canBe(0, 0, 99, 40)", BAD);
        taken("canBe(0, 0, 100, 40)", 1);
        taken("canBe(0, 0, 39900, 40)", 1);
        refusedNext("canBe(0, 0, 39899, 40)", BAD);
        refusedNext("canBe(0, 0, 40000, 40)", BAD);
    }

    static void promise24() {
        edge("suspects(?, 40)", 0, 4, 3, 3, BAD);
        edge("suspects(0, ?)", 0, 7, 40, 4, BAD);
    }

    static void promise25() {
        edge("word(?, 0, 0, 1)", 0, 7, 5, 7, BAD);
        edge("word(0, ?, 0, 1)", 0, 7, 4, 7, BAD);
        edge("word(0, 0, ?, 1)", 0, 7, 3, 7, BAD);
        edge("word(0, 0, 0, ?)", 0, 7, 999, 7, BAD);
    }

    static void promise26() {
        edge("falseWords(?)", 0, 0, 40, 1 + 2 + 16 + 32, BAD);
    }

    static void promise27() {
        edge("paid(?, 0, 40)", 0, 120, 5, 300, NO);
        edge("paid(0, ?, 40)", 0, 120, 1, 100, NO);
        edge("paid(0, 0, ?)", 0, 0, 40, 120, NO);
    }

    static void promise28() {
        edge("held(?)", 0, 31, 40, 31, BAD);
    }

    static void promise29() {
        edge("hangs(?, 40)", 0, 0, 5, 0, BAD);
        edge("hangs(0, ?)", 0, 0, 40, 0, BAD);
    }

    static void promise30() {
        edge("meeting(?, 1, 5)", 0, 5, 4, 5, BAD);
        edge("meeting(1, ?, 5)", 0, 5, 4, 5, BAD);
        edge("meeting(0, 1, ?)", 0, 5, 40, 5, BAD);
        refusedNext("meeting(1, 1, 5)", BAD);
    }

    static void promise31() {
        edge("taker(?, 5)", 0, -1, 4, 40, NO_TAKER);
        edge("taker(0, ?)", -1, -1, 399, -1, NO_TAKER);
        edge("taker(4, ?)", -1, 40, 399, 40, NO_TAKER);
    }

    static void promise32() {
        edge("sworn(?, 40)", 0, 0, 31, 31, BAD);
        edge("sworn(1, ?)", 0, 1, 399, 15, BAD);
    }

    static void promise34() {
        edge("parties(?, 0, 0, 1)", 0, 0, 8, 4, BAD);
        edge("parties(1, ?, 0, 1)", 0, 1, 99, 3, BAD);
        edge("parties(1, 3, ?, 1)", 0, 1, 399, 2, BAD);
        edge("parties(1, 0, 0, ?)", 0, 1, 1, 1, BAD);
    }

    static void promise35() {
        edge("clause(?, 0)", -99, 4, 99, 4, BAD);
        edge("clause(0, ?)", -99, 4, 99, 4, BAD);
    }

    static void promise36() {
        edge("against(?, 2)", 0, 1, 3, 1, BAD);
        edge("against(2, ?)", 0, 1, 3, 1, BAD);
        refusedNext("against(2, 2)", BAD);
        refusedNext("against(0, 1)", 0);
        refusedNext("against(1, 0)", 0);
    }

    static void promise37() {
        edge("offer(?, 0)", -999, 13, 999, NONE, BAD);
        edge("offer(0, ?)", -999, 4, 999, NONE, BAD);
    }

    static void promise38() {
        edge("row(?)", 0, 3, 9999999999L, 3, BAD);
    }

    static void promise39() {
        edge("plan(?, -1)", 1, 10, 5, 38, BAD);
        edge("plan(5, ?)", -1, 38, 4, 2, NONE);
        edge("plan(1, ?)", -1, 10, 0, 2, NONE);
    }

    static void promise40() {
        edge("count(?)", 0, 40, 15, 1, BAD);
    }

    static void promise41() {
        edge("sheet(?, 1, 5)", 0, 1, 3, 1, BAD);
        edge("sheet(3, ?, 5)", -1, 1, 2, 1, BAD);
        edge("sheet(0, 0, ?)", 0, 1, 40, 1, BELOW_ZERO, BAD);
        edge("sheet(3, 2, ?)", 0, 1, 40, 1, BELOW_ZERO, BAD);
        free("sheet(0, -1, ?)", 1);
    }

    static void promise42() {
        edge("cell(?, 0, 5)", 0, 1, 3, MISSING, BAD);
        edge("cell(0, ?, 5)", 0, 1, 3, 1, OUTSIDE);
        edge("cell(2, ?, 5)", 0, 1, 39, 1, OUTSIDE);
        free("cell(0, 0, ?)", 1);
        free("cell(1, 7, ?)", 1);
        free("cell(2, 39, ?)", 1);
        refusedNext("cell(3, 0, 5)", MISSING);
    }

    static void promise43() {
        edge("copy(?, 0, 2, 0, 1)", 0, UNLIKE, 3, MISSING, BAD);
        edge("copy(2, 0, ?, 0, 1)", 0, UNLIKE, 3, MISSING, BAD);
        edge("copy(2, ?, 2, 0, 2)", 0, 2, 38, 2, OUTSIDE);
        edge("copy(2, 0, 2, ?, 2)", 0, 2, 38, 2, OUTSIDE);
        edge("copy(2, 0, 2, 0, ?)", 0, 0, 40, 40, OUTSIDE);
        refusedNext("copy(3, 0, 2, 0, 1)", MISSING);
        refusedNext("copy(2, 0, 3, 0, 1)", MISSING);
        refusedNext("copy(0, 0, 1, 0, 1)", UNLIKE);
    }

    static void promise44() {
        edge("paysRow(?, 2, 0, 1)", 0, UNLIKE, 3, MISSING, BAD);
        edge("paysRow(2, ?, 0, 1)", 0, UNLIKE, 2, 1, BAD);
        edge("paysRow(2, 2, ?, 1)", 0, 1, 39, 1, OUTSIDE);
        edge("paysRow(2, 2, 0, ?)", 0, 0, 8, 3, BAD);
        refusedNext("paysRow(3, 2, 0, 1)", MISSING);
        refusedNext("paysRow(0, 2, 0, 1)", UNLIKE);
    }

    static void promise45() {
        edge("taken(?, 0)", 0, 30, 7, 60, MISSING);
        edge("taken(3, ?)", 0, 60, 5, UNLIKE, BAD);
        taken("taken(7, 5)", 60);
    }
}

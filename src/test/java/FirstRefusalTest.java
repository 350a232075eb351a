import java.util.List;

/** Where two things stand against a call, the one that its words name first is told; it changes nothing. */
public final class FirstRefusalTest {
    private static final Due due = new Due("FirstRefusalTest");
    private static final int NONE = -1, BAD = -2, STATE = -3, FULL = -4, NO_TAKER = -5;
    private static final int MISSING = -11, OUTSIDE = -12, UNLIKE = -13, BELOW_ZERO = -14;

    public static void main(String[] args) {
        Tests.runAll(FirstRefusalTest.class, due);
        due.end();
    }

    private static void refused(List<String> county, String call, long refusal) {
        for (int part = 0; part < Tellings.PARTS.size(); part++) {
            FrameCounty x = Counties.made(county);
            due.is(call, Call.of(call).on(x), refusal);
            due.holds("all is as it was behind " + call, Tellings.isAsMade(x, county, part));
        }
    }

    private static void some(String call, long refusal) {
        refused(Counties.SOME, call, refusal);
    }

    private static void full(String call, long refusal) {
        refused(Counties.FULL, call, refusal);
    }

    static void promise02BadThenFull() {
        full("pass(min)", BAD);
        full("pass(-1)", BAD);
        full("pass(max)", BAD);
    }

    static void promise05BadThenFull() {
        full("shop(-1, 0)", BAD);
        full("shop(0, -1)", BAD);
        full("shop(max, min)", BAD);
    }

    static void promise07BadThenFull() {
        full("frame(-1, 0, 10, 0)", BAD);
        full("frame(0, -1, 10, 0)", BAD);
        full("frame(0, 0, 9, 0)", BAD);
        full("frame(0, 0, 10, -1)", BAD);
    }

    static void promise09BadThenState() {
        some("mend(0, 3)", BAD);
        some("mend(1, -1)", BAD);
        some("mend(8, 0)", BAD);
        some("mend(-1, 3)", BAD);
    }

    static void promise12BadThenFull() {
        full("feed(min, max)", BAD);
        full("feed(-1, 0)", BAD);
        full("feed(max, min)", BAD);
    }

    static void promise13FullAheadOfAll() {
        full("text()", FULL);
    }

    static void promise16BadThenStateThenFull() {
        some("raid(1, 12)", BAD);
        some("raid(8, 12)", BAD);
        some("raid(6, -1)", BAD);
        full("raid(12, -1)", BAD);
        full("raid(-1, 0)", BAD);
        full("raid(19, 11)", STATE);
        full("raid(3, 11)", STATE);
        full("raid(0, 11)", FULL);
    }

    static void promise21BadThenFull() {
        full("person(-1)", BAD);
        full("person(min)", BAD);
    }

    static void promise22BadThenFull() {
        full("seen(-1, 0, 0, 0)", BAD);
        full("seen(0, -1, 0, 0)", BAD);
        full("seen(0, 0, -1, 0)", BAD);
        full("seen(0, 0, 0, -1)", BAD);
    }

    static void promise25BadThenFull() {
        full("word(-1, 0, 0, 0)", BAD);
        full("word(0, -1, 0, 0)", BAD);
        full("word(0, 0, -1, 0)", BAD);
        full("word(0, 0, 0, -1)", BAD);
    }

    static void promise30BadThenFull() {
        full("meeting(-1, 0, 0)", BAD);
        full("meeting(0, -1, 0)", BAD);
        full("meeting(0, 1, -1)", BAD);
        full("meeting(11, 11, 0)", BAD);
    }

    static void promise31OneRefusalForBoth() {
        some("taker(5, 400)", NO_TAKER);
        some("taker(-1, -2)", NO_TAKER);
    }

    static void promise35BadThenFull() {
        full("clause(100, -100)", BAD);
        full("clause(0, -100)", BAD);
        full("clause(min, max)", BAD);
    }

    static void promise38BadThenFull() {
        full("row(min)", BAD);
        full("row(max)", BAD);
    }

    static void promise39BadThenNone() {
        some("plan(0, -2)", BAD);
        some("plan(6, 6)", BAD);
        some("plan(min, max)", BAD);
        some("plan(0, -1)", BAD);
        some("plan(5, 5)", NONE);
    }

    static void promise41BadThenBelowZero() {
        some("sheet(4, 0, -1)", BAD);
        some("sheet(-1, 0, min)", BAD);
        some("sheet(0, 3, -1)", BAD);
        some("sheet(0, -2, -1)", BAD);
        some("sheet(4, -1, 0)", BAD);
        some("sheet(0, 3, 41)", BAD);
        some("sheet(0, 2, min)", BELOW_ZERO);
        some("sheet(3, 2, -1)", BELOW_ZERO);
    }

    static void promise42BadThenMissingThenOutside() {
        some("cell(4, -1, 5)", BAD);
        some("cell(3, -1, 5)", MISSING);
        some("cell(3, 40, 5)", MISSING);
        some("cell(3, max, min)", MISSING);
        some("cell(2, 40, 5)", OUTSIDE);
    }

    static void promise43InTheirOrder() {
        some("copy(3, 0, 4, 0, 1)", BAD);
        some("copy(4, 0, 3, 0, -1)", BAD);
        some("copy(0, -1, -1, 0, 1)", BAD);
        some("copy(3, -1, 0, 0, 1)", MISSING);
        some("copy(0, 0, 3, -1, -1)", MISSING);
        some("copy(3, 0, 3, 0, -1)", MISSING);
        some("copy(0, -1, 1, 0, 1)", UNLIKE);
        some("copy(0, 0, 1, 9, 1)", UNLIKE);
        some("copy(0, 0, 2, 0, -1)", UNLIKE);
        some("copy(0, 0, 2, 0, 0)", UNLIKE);
        some("copy(2, 40, 2, 0, 1)", OUTSIDE);
    }

    static void promise44InTheirOrder() {
        some("paysRow(4, 1, 0, 1)", BAD);
        some("paysRow(3, 3, 0, 1)", BAD);
        some("paysRow(3, 0, 0, 9)", BAD);
        some("paysRow(0, 1, 0, 9)", BAD);
        some("paysRow(0, 1, -1, -1)", BAD);
        some("paysRow(0, 1, -1, 1)", UNLIKE);
        some("paysRow(0, 1, 4, 0)", UNLIKE);
        some("paysRow(3, 1, -1, 1)", MISSING);
        some("paysRow(3, 0, 40, 0)", MISSING);
        some("paysRow(0, 0, 4, 1)", OUTSIDE);
        some("paysRow(0, 0, -1, 1)", OUTSIDE);
    }

    static void promise45InTheirOrder() {
        some("taken(8, 6)", BAD);
        some("taken(-1, -1)", BAD);
        some("taken(8, 5)", MISSING);
        some("taken(0, 5)", UNLIKE);
    }
}

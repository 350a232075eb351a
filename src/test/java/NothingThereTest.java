import java.util.HashSet;
import java.util.Set;

/** What each call answers where nothing is there; what only tells, or is refused, leaves a new county as it was. */
public final class NothingThereTest {
    private static final Due due = new Due("NothingThereTest");
    private static final long NO = FrameCounty.NO;
    private static final int NONE = -1, BAD = -2, NO_TAKER = -5, MISSING = -11;
    private static final Set<String> asked = new HashSet<>();

    public static void main(String[] args) {
        Tests.runAll(NothingThereTest.class, due);
        for (String name : Call.FACE.keySet()) {
            due.holds(name + " is asked of a new object", asked.contains(name));
        }
        due.end();
    }

    /** Changes the county: it is asked for its answer alone. */
    private static void makes(String call, long answer) {
        asked.add(call.substring(0, call.indexOf('(')));
        due.is(call, Call.of(call).on(new FrameCounty()), answer);
    }

    private static void tells(String call, long answer) {
        makes(call, answer);
        for (int part = 0; part < Tellings.PARTS.size(); part++) {
            FrameCounty x = new FrameCounty();
            Call.of(call).on(x);
            due.holds("all is as it was behind " + call, Tellings.isAsMade(x, Counties.EMPTY, part));
        }
    }

    static void promise01EachCount() {
        int[] counts = {0, 0, 0, 0, 0, 0, 0, 0, 0, 0, 1, 0, 0, 0, 0, 0};
        for (int what = 0; what < counts.length; what++) {
            tells("count(" + what + ")", counts[what]);
        }
        tells("count(-1)", BAD);
        tells("count(16)", BAD);
    }

    static void promise01TextZeroIsThere() {
        new Run(due).due("count(10)", 1).due("count(12)", 0).due("force(0)", 0).due("force(1)", BAD)
            .then("shop(0, 50)", "frame(0, 0, 40, 0)", "person(0)")
            .due("says(0, 0)", 50).due("keeps(0)", 1).due("says(1, 0)", 0);
    }

    static void promise02To04Nights() {
        makes("pass(1)", 1);
        makes("pass(60)", 60);
        tells("pass(0)", BAD);
        tells("pass(61)", BAD);
        makes("road(0, 1, 5)", 99);
        makes("road(7, 6, 99)", 99);
        tells("far(0, 0, 0)", 0);
        tells("far(0, 1, 0)", 99);
        tells("far(7, 6, 399)", 99);
    }

    static void promise05To11Shops() {
        makes("shop(0, 0)", 0);
        tells("pays(0, 0)", BAD);
        for (int kind = 0; kind < 6; kind++) {
            tells("frame(" + kind + ", 0, 10, 0)", BAD);
        }
        for (int what = 0; what < 8; what++) {
            tells("frameTold(0, " + what + ")", NO);
        }
        for (int how = 0; how < 3; how++) {
            tells("mend(0, " + how + ")", BAD);
        }
        tells("keeps(0)", BAD);
        tells("earns(0)", NO);
    }

    static void promise12To15Texts() {
        makes("feed(1, 32)", 1);
        tells("feed(0, 32)", BAD);
        tells("text()", -100);
        tells("force(0)", 0);
        tells("force(1)", BAD);
        tells("says(0, 0)", NO);
        tells("says(1, 0)", NO);
    }

    static void promise16To20Raids() {
        tells("raid(0, 0)", BAD);
        tells("pattern(0)", 0);
        tells("pattern(1)", 0);
        tells("left()", 0);
        tells("form(0)", NONE);
        tells("form(1499)", NONE);
        tells("sends(0)", NONE);
        tells("sends(1499)", NONE);
    }

    static void promise21To29Persons() {
        makes("person(0)", 0);
        tells("seen(0, 0, 0, 0)", BAD);
        tells("canBe(0, 0, 0, 0)", BAD);
        tells("suspects(0, 0)", BAD);
        tells("word(0, 0, 0, 0)", BAD);
        tells("falseWords(0)", 0);
        tells("falseWords(1)", BAD);
        for (int informer = 0; informer < 6; informer++) {
            tells("paid(" + informer + ", 0, 0)", 0);
            tells("paid(" + informer + ", 1, 0)", 0);
            tells("hangs(" + informer + ", 0)", 0);
        }
        tells("held(0)", 0);
        tells("held(1)", BAD);
    }

    static void promise25NoRaidOrNoPerson() {
        new Run(due).then("person(0)").due("word(0, 0, 0, 0)", BAD).due("suspects(0, 0)", BAD);
        new Run(due).then("shop(0, 0)", "frame(0, 0, 10, 0)").due("raid(0, 0)", 0).due("word(0, 0, 0, 0)", BAD)
            .due("suspects(0, 0)", 0);
    }

    static void promise30To33Oaths() {
        tells("meeting(0, 1, 0)", BAD);
        tells("meeting(0, 0, 0)", BAD);
        tells("taker(0, -1)", NO_TAKER);
        tells("taker(0, 0)", NO_TAKER);
        tells("sworn(0, 0)", 0);
        tells("sworn(0, 399)", 0);
        tells("sworn(1, 0)", BAD);
        tells("began()", 0);
    }

    static void promise34To39Soldiers() {
        for (int n = 0; n <= 8; n++) {
            tells("parties(" + n + ", 99, 0, 0)", (1 << n) - 1);
            tells("parties(" + n + ", 99, 0, 1)", 0);
        }
        makes("clause(0, 0)", 0);
        tells("against(0, 1)", BAD);
        tells("offer(0, 0)", 0);
        tells("offer(-999, -999)", 0);
        tells("offer(1, 0)", NONE);
        tells("offer(0, 1)", NONE);
        makes("row(0)", 0);
        for (int n = 1; n <= 5; n++) {
            for (int i = -1; i < n; i++) {
                tells("plan(" + n + ", " + i + ")", 0);
            }
            tells("plan(" + n + ", " + n + ")", NONE);
        }
    }

    static void promise41To45Host() {
        makes("sheet(0, 0, 0)", 1);
        for (int sheet = 0; sheet < 4; sheet++) {
            tells("sheet(" + sheet + ", -1, 7)", 1);
            tells("cell(" + sheet + ", 0, 0)", MISSING);
            tells("copy(" + sheet + ", 0, " + (sheet + 1) % 4 + ", 0, 0)", MISSING);
            tells("copy(" + sheet + ", 0, " + sheet + ", 0, 0)", MISSING);
            for (int sort = 0; sort < 3; sort++) {
                tells("paysRow(" + sheet + ", " + sort + ", 0, 0)", MISSING);
            }
        }
        for (int k = 0; k < 6; k++) {
            tells("taken(0, " + k + ")", MISSING);
        }
    }

    // A row of no numbers is there, but has none.
    static void promise41RowOfNone() {
        for (int sort = 0; sort < 3; sort++) {
            new Run(due).then("shop(0, 5)").due("sheet(1, " + sort + ", 0)", 1).due("cell(1, 0, 1)", -12)
                .due("copy(1, 0, 1, 0, 0)", 0).due("copy(1, 0, 1, 0, 1)", -12).due("copy(1, 1, 1, 0, 0)", -12)
                .due("paysRow(1, " + sort + ", 0, 0)", 0).due("paysRow(1, " + sort + ", 0, 1)", -12)
                .due("paysRow(1, " + (sort + 1) % 3 + ", 0, 0)", -13).due("pays(0, 5)", 5);
        }
    }
}

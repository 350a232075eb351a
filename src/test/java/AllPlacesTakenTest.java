import java.util.ArrayList;
import java.util.Collections;
import java.util.List;

/** All places are taken: the last ones are there as the first ones are, and one more is FULL and changes nothing. */
public final class AllPlacesTakenTest {
    private static final Due due = new Due("AllPlacesTakenTest");
    private static final long NO = FrameCounty.NO;
    private static final int BAD = -2, STATE = -3, FULL = -4;

    public static void main(String[] args) {
        Tests.runAll(AllPlacesTakenTest.class, due);
        due.end();
    }

    private static Run full() {
        return new Run(due).then(Counties.FULL);
    }

    private static void refused(String call, long refusal) {
        refused(Counties.FULL, call, refusal);
    }

    /** Refused, and all is told as before. */
    private static void refused(List<String> made, String call, long refusal) {
        for (int part = 0; part < Tellings.PARTS.size(); part++) {
            FrameCounty x = Counties.made(made);
            due.is(call, Call.of(call).on(x), refusal);
            due.holds("all is as it was behind " + call, Tellings.isAsMade(x, made, part));
        }
    }

    private static List<String> someAnd(List<String> more) {
        List<String> made = new ArrayList<>(Counties.SOME);
        made.addAll(more);
        return made;
    }

    static void promise01EachPlaceIsTaken() {
        Run x = new Run(due);
        for (int i = 0; i < Counties.FULL.size(); i++) {
            x.due(Counties.FULL.get(i), Counties.FULL_ANSWERS.get(i));
        }
        int[] counts = {399, 8, 20, 30, 12, 40, 24, 40, 8, 6, 6, 160, 5, 11, 8, 1};
        for (int what = 0; what < counts.length; what++) {
            x.due("count(" + what + ")", counts[what]);
        }
    }

    static void promise02NoNightMore() {
        refused("pass(1)", FULL);
        refused("pass(60)", FULL);
        refused("pass(0)", BAD);
        refused("pass(61)", BAD);
    }

    // There is room for some NIGHTS, but not for so many: none goes by.
    static void promise02NoRoomForSoMany() {
        List<String> night340 = someAnd(Collections.nCopies(5, "pass(60)"));
        refused(night340, "pass(60)", FULL);
        due.is("pass(59)", Call.of("pass(59)").on(Counties.made(night340)), 399);
    }

    static void promise05NoShopMore() {
        refused("shop(0, 0)", FULL);
        refused("shop(7, 99)", FULL);
        refused("shop(8, 0)", BAD);
        refused("shop(0, 100)", BAD);
        full().due("pays(7, 50)", 1).due("pays(7, 1)", 50).due("pays(8, 50)", BAD).due("pays(0, 1)", 99);
    }

    static void promise07NoFrameMore() {
        for (int kind = 0; kind < 6; kind++) {
            refused("frame(" + kind + ", " + kind + ", 10, 0)", FULL);
        }
        refused("frame(6, 0, 10, 0)", BAD);
        refused("frame(0, 8, 10, 0)", BAD);
        refused("frame(0, 0, 61, 0)", BAD);
        refused("frame(0, 0, 10, 100)", BAD);
        full().due("frameTold(19, 0)", 1).due("frameTold(19, 1)", 3).due("frameTold(19, 2)", 41).due("frameTold(19, 3)", 47)
            .due("frameTold(19, 4)", 1).due("frameTold(20, 0)", NO).due("frameTold(0, 2)", 10)
            .due("mend(19, 0)", 1).due("mend(20, 0)", BAD).due("taken(19, 1)", 41).due("taken(20, 1)", -11)
            .due("says(0, 19)", 47).due("says(0, 20)", NO);
    }

    static void promise11TheLastShopEarns() {
        // Frame 7, a WIDE 59 wide, and frame 15, a broken CUT, are of shop 7, which pays 1.
        full().due("frameTold(7, 2)", 59).due("frameTold(7, 6)", 91).due("frameTold(15, 6)", 95 + 2)
            .due("earns(7)", 1 * (5 + 3) - 91 - 97).due("earns(8)", NO);
    }

    static void promise12NoByteMore() {
        for (int n = 1; n <= 8; n++) {
            refused("feed(" + n + ", 0)", FULL);
        }
        refused("feed(0, 0)", BAD);
        refused("feed(9, 0)", BAD);
    }

    // There is room for some bytes, but not for so many: none comes.
    static void promise12NoRoomForSoMany() {
        List<String> bytes155 = someAnd(Collections.nCopies(19, "feed(8, 2314885530818453536)"));
        refused(bytes155, "feed(6, 0)", FULL);
        refused(bytes155, "feed(8, -1)", FULL);
        due.is("feed(5, 0)", Call.of("feed(5, 0)").on(Counties.made(bytes155)), 160);
    }

    static void promise13NoTextMore() {
        refused("text()", FULL);
        full().due("text()", FULL).due("count(11)", 160).due("count(10)", 6);
    }

    static void promise14TheLastText() {
        full().due("force(5)", 5).due("force(6)", BAD).due("force(4)", 5).due("says(0, 1)", -1).due("force(5)", 4)
            .due("says(0, 1)", 13);
    }

    static void promise16NoRaidMore() {
        refused("raid(0, 0)", FULL);
        refused("raid(11, 11)", FULL);
        refused("raid(12, 0)", STATE);
        refused("raid(3, 0)", STATE);
        refused("raid(20, 0)", BAD);
        refused("raid(0, 12)", BAD);
        refused("raid(12, 12)", BAD);
        full().due("suspects(30, 399)", BAD).due("pattern(0)", (1 << 20) - (1 << 12));
    }

    static void promise21NoPersonMore() {
        refused("person(0)", FULL);
        refused("person(7)", FULL);
        refused("person(8)", BAD);
        full().due("canBe(11, 3, 100, 0)", 1).due("canBe(12, 3, 100, 0)", BAD).due("says(1, 12)", NO);
    }

    static void promise22NothingMoreSeen() {
        refused("seen(0, 0, 0, 0)", FULL);
        refused("seen(11, 7, 399, 11)", FULL);
        refused("seen(12, 0, 0, 0)", BAD);
        refused("seen(0, 8, 0, 0)", BAD);
        refused("seen(0, 0, 400, 0)", BAD);
        refused("seen(0, 0, 0, 12)", BAD);
        // The last of the 40 is person 11 at home (3) in night 399, hour 9: then 4 can't be reached in that hour.
        full().due("canBe(11, 3, 39909, 399)", 1).due("canBe(11, 4, 39909, 399)", 0).due("canBe(11, 4, 39909, 398)", 1);
    }

    static void promise25NoWordMore() {
        refused("word(0, 0, 0, 0)", FULL);
        refused("word(5, 11, 29, 999)", FULL);
        refused("word(6, 0, 0, 0)", BAD);
        refused("word(0, 12, 0, 0)", BAD);
        refused("word(0, 0, 30, 0)", BAD);
        refused("word(0, 0, 0, 1000)", BAD);
        full().due("paid(5, 0, 399)", 4 * 999).due("paid(5, 0, 398)", 2 * 999).due("paid(4, 0, 399)", 0);
    }

    static void promise30NoMeetingMore() {
        refused("meeting(0, 1, 0)", FULL);
        refused("meeting(11, 10, 399)", FULL);
        refused("meeting(0, 0, 0)", BAD);
        refused("meeting(12, 0, 0)", BAD);
        refused("meeting(0, 12, 0)", BAD);
        refused("meeting(0, 1, 400)", BAD);
    }

    static void promise31TheLastTaker() {
        full().due("taker(11, 5)", 3).due("taker(11, 3)", 5).due("taker(12, 5)", -5).due("taker(0, -1)", 399);
    }

    static void promise32AllPersons() {
        // In night 0 person 11 meets 5, who meets 8, then 0, who meets 2.
        full().due("sworn(4095, 0)", 4095).due("sworn(4096, 0)", BAD).due("sworn(0, 399)", 0).due("sworn(2048, 0)",
            2048 + 32 + 256 + 1 + 4);
    }

    static void promise35NoClauseMore() {
        refused("clause(0, 0)", FULL);
        refused("clause(-99, 99)", FULL);
        refused("clause(-100, 0)", BAD);
        refused("clause(0, 100)", BAD);
        full().due("against(7, 0)", 0).due("against(7, 6)", 1).due("against(8, 0)", BAD).due("against(0, 8)", BAD);
    }

    static void promise38NoRowMore() {
        refused("row(0)", FULL);
        refused("row(9999999999)", FULL);
        refused("row(-1)", BAD);
        refused("row(10000000000)", BAD);
        // Row 5 is 99 in each week: 50 by parties, 33 by an offer, and no offer behind an offer.
        full().due("plan(1, -1)", 33).due("plan(2, -1)", 83).due("plan(5, -1)", 199);
    }

    static void promise41TheLastItems() {
        for (int sheet = 0; sheet < 4; sheet++) {
            full().due("cell(" + sheet + ", 40, 5)", -12).due("paysRow(" + sheet + ", " + sheet % 3 + ", 39, 1)", 1)
                .due("pays(0, 0)", 99 - sheet).due("cell(" + sheet + ", 39, 5)", 1)
                .due("paysRow(" + sheet + ", " + sheet % 3 + ", 39, 1)", 1).due("pays(0, 0)", 5)
                .due("paysRow(" + sheet + ", " + sheet % 3 + ", 40, 1)", -12)
                .due("paysRow(" + sheet + ", " + sheet % 3 + ", 40, 0)", 0);
        }
        refused("sheet(0, 0, 41)", BAD);
        refused("sheet(3, 0, -1)", -14);
        refused("sheet(4, 0, 40)", BAD);
    }
}

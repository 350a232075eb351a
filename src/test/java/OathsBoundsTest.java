/** Terms, part 5 (MEETINGS), and promises 30 to 33: what each sentence says of its bounds. */
public final class OathsBoundsTest {
    private static final Due due = new Due("OathsBoundsTest");
    private static final int BAD = -2, FULL = -4, NO_TAKER = -5;

    public static void main(String[] args) {
        Tests.runAll(OathsBoundsTest.class, due);
        due.end();
    }

    private static Run persons(int n, int night) {
        return new Run(due).times(n, "person(0)").nights(night);
    }

    // "MEETINGS (40 at most)": the fortieth counts as the first one does.
    static void promise30TheFortiethAndOneMore() {
        Run x = persons(12, 0);
        for (int i = 1; i <= 39; i++) {
            x.due("meeting(0, 1, 0)", i);
        }
        x.due("sworn(1, 0)", 3).due("meeting(1, 11, 0)", 40).due("sworn(1, 0)", 3 + 2048).due("count(7)", 40)
            .due("meeting(1, 10, 0)", FULL).due("meeting(1, 1, 0)", BAD).due("meeting(1, 12, 0)", BAD)
            .due("meeting(1, 10, 1)", BAD).due("count(7)", 40).due("sworn(1, 0)", 3 + 2048);
    }

    // Of all places the last one is of the first night: it comes ahead of all others.
    static void promise30TheFortiethOfTheFirstNight() {
        Run x = persons(3, 399);
        x.times(39, "meeting(1, 2, 399)").due("sworn(1, 399)", 1).due("meeting(0, 1, 0)", 40).due("sworn(1, 0)", 3)
            .due("sworn(1, 398)", 3).due("sworn(1, 399)", 7).due("meeting(0, 1, 0)", FULL);
    }

    // One more of an earlier night is FULL, too, and none of those that are told becomes one of it.
    static void promise30FullKeepsTheNights() {
        persons(3, 1).times(39, "meeting(0, 1, 0)").due("meeting(1, 2, 1)", 40).due("sworn(1, 0)", 3).due("meeting(0, 2, 0)", FULL)
            .due("sworn(1, 0)", 3).due("sworn(1, 1)", 7).due("meeting(0, 2, 1)", FULL).due("sworn(4, 1)", 6).due("sworn(4, 0)", 4);
    }

    // "two PERSONS in a NIGHT (NIGHT at most)", "BAD: one and itself, too"
    static void promise30ThisNightAndTheNext() {
        for (int night : new int[] {0, 1, 399}) {
            persons(2, night).due("meeting(0, 1, " + night + ")", 1).due("meeting(0, 1, " + (night + 1) + ")", BAD)
                .due("meeting(0, 1, -1)", BAD).due("meeting(1, 0, 0)", 2).due("count(7)", 2);
        }
    }

    static void promise30OneAndItself() {
        Run x = persons(12, 0);
        for (int p = 0; p < 12; p++) {
            x.due("meeting(" + p + ", " + p + ", 0)", BAD);
        }
        x.due("count(7)", 0);
        for (int p = 0; p < 11; p++) {
            x.due("meeting(" + p + ", " + (p + 1) + ", 0)", p + 1);
        }
    }

    static void promise30OneBeyondEach() {
        persons(1, 0).due("meeting(0, 1, 0)", BAD).due("meeting(1, 0, 0)", BAD).due("meeting(0, -1, 0)", BAD)
            .due("meeting(-1, 0, 0)", BAD).due("count(7)", 0).then("person(7)").due("meeting(0, 1, 0)", 1)
            .due("meeting(0, 2, 0)", BAD).due("meeting(min, 0, 0)", BAD).due("meeting(0, max, 0)", BAD)
            .due("meeting(0, 1, max)", BAD).due("meeting(0, 1, min)", BAD).due("count(7)", 1);
    }

    // "by a NIGHT (-1: none): what was told", "-5: no such PERSON, NIGHT"
    static void promise31LeastAndGreatestNight() {
        persons(12, 0).due("taker(0, -1)", -1).due("taker(0, 0)", -1).due("taker(0, 399)", 0).due("taker(0, 400)", NO_TAKER)
            .due("taker(0, -2)", NO_TAKER).due("taker(0, min)", NO_TAKER).due("taker(0, max)", NO_TAKER).due("taker(0, -1)", 399)
            .due("taker(0, -1)", -1).due("taker(11, 399)", -1).due("taker(12, 0)", NO_TAKER).due("taker(-1, 0)", NO_TAKER)
            .due("taker(min, 0)", NO_TAKER).due("taker(max, -1)", NO_TAKER).due("taker(11, 0)", 399);
    }

    static void promise31EachPersonAlone() {
        Run x = persons(12, 0);
        for (int p = 0; p < 12; p++) {
            x.due("taker(" + p + ", " + 10 * p + ")", -1).due("began()", (2 << p) - 1);
        }
        for (int p = 0; p < 12; p++) {
            x.due("taker(" + p + ", -1)", 10 * p).due("began()", 4095 & ~((2 << p) - 1));
        }
    }

    // A set of PERSONS that are: with n of them the sets are 0 .. 2 to the n less 1.
    static void promise32EachNumberOfPersons() {
        for (int n = 0; n <= 12; n++) {
            persons(n, 0).due("sworn(0, 0)", 0).due("sworn(" + ((1 << n) - 1) + ", 0)", (1 << n) - 1)
                .due("sworn(" + (1 << n) + ", 0)", BAD).due("sworn(-1, 0)", BAD).due("sworn(min, 0)", BAD).due("sworn(max, 0)", BAD)
                .due("sworn(" + ((1 << n) + 65536) + ", 0)", BAD);
        }
    }

    static void promise32FirstAndLastNight() {
        persons(2, 399).then("meeting(0, 1, 399)").due("sworn(1, 0)", 1).due("sworn(1, 398)", 1).due("sworn(1, 399)", 3)
            .due("sworn(1, 400)", BAD).due("sworn(1, -1)", BAD).due("sworn(1, min)", BAD).due("sworn(1, max)", BAD);
        persons(2, 399).then("meeting(0, 1, 0)").due("sworn(1, 0)", 3).due("sworn(2, 0)", 3).due("sworn(2, 399)", 3);
    }

    // "sworn by a NIGHT is who was at first, or at a MEETING of it or ahead of it"
    static void promise32OfItOrAheadOfIt() {
        Run x = persons(4, 20).then("meeting(1, 2, 11)", "meeting(0, 1, 10)", "meeting(2, 3, 12)");
        int[] by = {1, 3, 7, 15, 15};
        for (int i = 0; i < by.length; i++) {
            x.due("sworn(1, " + (9 + i) + ")", by[i]);
        }
    }

    // "by NIGHTS": of five nights, in each of the 120 orders in which they can be told
    static void promise32ByNightsInWhateverOrderTold() {
        String[] meetings = {"meeting(0, 1, 0)", "meeting(1, 2, 3)", "meeting(2, 3, 4)", "meeting(3, 4, 7)", "meeting(4, 5, 9)"};
        tellAll(meetings, meetings.length);
    }

    /** Tells the meetings with the first n of them in each order. */
    private static void tellAll(String[] meetings, int n) {
        if (n == 0) {
            persons(6, 9).then(meetings).due("sworn(1, 9)", 63).due("sworn(32, 9)", 32 + 16).due("sworn(8, 9)", 4 + 8 + 16 + 32)
                .due("sworn(2, 4)", 15).due("sworn(16, 8)", 8 + 16).due("sworn(1, 2)", 3);
            return;
        }
        for (int i = 0; i < n; i++) {
            String[] other = meetings.clone();
            other[i] = meetings[n - 1];
            other[n - 1] = meetings[i];
            tellAll(other, n - 1);
        }
    }

    // "in one by the order in which they were told"
    static void promise32InOneNightInTheirOrder() {
        Run x = persons(12, 0);
        for (int p = 10; p >= 0; p--) {
            x.then("meeting(" + p + ", " + (p + 1) + ", 0)");
        }
        x.due("sworn(1, 0)", 3).due("sworn(2048, 0)", 4095).due("sworn(2, 0)", 1 + 2 + 4);
        for (int p = 0; p < 11; p++) {
            x.then("meeting(" + p + ", " + (p + 1) + ", 0)").due("sworn(1, 0)", (4 << p) - 1);
        }
    }

    static void promise33NoTakerAndAllTakers() {
        Run x = persons(12, 399).due("began()", 0);
        for (int p = 11; p >= 0; p--) {
            x.then("taker(" + p + ", 399)").due("began()", 4095 & -(1 << p));
        }
        for (int p = 0; p < 11; p++) {
            x.then("meeting(" + p + ", " + (p + 1) + ", 399)");
        }
        x.due("began()", 1).due("taker(0, 398)", 399).due("began()", 1).due("taker(1, 398)", 399).due("began()", 3)
            .due("taker(11, 0)", 399).due("began()", 3 + 2048);
    }

    // By a night ahead of the meeting it does not count; by that of it, it does.
    static void promise33JustInTime() {
        for (int night : new int[] {1, 200, 399}) {
            persons(2, night).then("meeting(0, 1, " + night + ")", "taker(1, " + night + ")").due("began()", 1)
                .then("taker(1, " + (night - 1) + ")").due("began()", 2).then("taker(1, 399)").due("began()", 1)
                .then("taker(1, 0)").due("began()", 2);
        }
    }

    // "of like ones the least set as bits": of persons of whom each alone is enough, the first; never one who is too late
    static void promise33OfLikeOnesTheLeast() {
        persons(4, 0).then("meeting(3, 1, 0)", "meeting(3, 2, 0)", "taker(1, 0)", "taker(2, 0)").due("began()", 2);
        persons(4, 0).then("meeting(3, 2, 0)", "meeting(3, 1, 0)", "taker(1, 0)", "taker(2, 0)").due("began()", 4);
        persons(4, 0).then("meeting(1, 0, 0)", "meeting(3, 1, 0)", "meeting(3, 2, 0)", "taker(0, 0)", "taker(2, 0)").due("began()", 1);
        persons(12, 0).then("meeting(11, 10, 0)", "taker(11, 0)").due("began()", 1024).then("taker(10, 0)").due("began()", 1024)
            .then("meeting(0, 10, 0)").due("began()", 1024);
        persons(12, 0).then("meeting(0, 10, 0)", "meeting(11, 10, 0)", "taker(11, 0)").due("began()", 1);
    }

    static void promise33AHeadStartOfOneNight() {
        persons(5, 1).then("meeting(4, 2, 1)", "meeting(4, 3, 1)", "taker(2, 1)", "taker(3, 0)").due("began()", 4 + 8)
            .then("taker(3, 1)").due("began()", 4);
        persons(5, 1).then("meeting(4, 2, 0)", "meeting(4, 3, 1)", "taker(2, 0)", "taker(3, 1)", "taker(4, 0)").due("began()", 4)
            .then("taker(3, 0)").due("began()", 4 + 8);
    }

    // "the fewest PERSONS": 11 meets 10 ahead of all, then each of them meets one taker: neither taker is in time for the other.
    static void promise33OneOfTheLastIsFewerThanTwoOfTheFirst() {
        persons(12, 2).then("meeting(11, 0, 1)", "meeting(10, 1, 1)", "meeting(11, 10, 0)", "taker(0, 1)", "taker(1, 1)")
            .due("began()", 1024).then("taker(0, 0)").due("began()", 1 + 2).then("taker(0, -1)").due("began()", 2)
            .then("taker(11, 1)").due("began()", 1024).then("taker(0, 1)").due("began()", 1024).then("taker(11, 0)")
            .due("began()", 1024);
    }
}

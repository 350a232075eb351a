/** Terms, part 4, and promises 16 to 20: what each sentence says of its bounds. */
public final class RaidsBoundsTest {
    private static final Due due = new Due("RaidsBoundsTest");
    private static final int NONE = -1, BAD = -2, STATE = -3, FULL = -4;

    public static void main(String[] args) {
        Tests.runAll(RaidsBoundsTest.class, due);
        due.end();
    }

    private static Run run() {
        return new Run(due);
    }

    /** One frame alone in one shop. */
    private static Run alone(int village, int pays, int kind, int width, int rent) {
        return run().then("shop(" + village + ", " + pays + ")", "frame(" + kind + ", 0, " + width + ", " + rent + ")");
    }

    // "HOURS of a NIGHT are 0 .. 11": the first hour finds just who is at home there, the last one those 11 hours far.
    static void promise16FirstAndLastHour() {
        Run x = run().then("shop(0, 0)", "frame(0, 0, 10, 0)", "frame(0, 0, 10, 0)", "road(0, 1, 1)", "road(0, 2, 9)",
            "road(2, 3, 1)", "road(2, 4, 2)", "pass(8)", "person(0)", "person(1)", "person(2)", "person(3)", "person(4)");
        x.due("raid(0, -1)", BAD).due("raid(0, 12)", BAD).due("count(3)", 0).due("frameTold(0, 4)", 0).due("raid(0, 0)", 0)
            .due("suspects(0, 8)", 1).due("raid(1, 11)", 1).due("suspects(1, 8)", 31);
    }

    static void promise16FirstAndLastFrame() {
        Run x = run().then("shop(0, 0)");
        x.times(20, "frame(0, 0, 10, 0)");
        x.due("raid(-1, 0)", BAD).due("raid(20, 0)", BAD).due("raid(min, 0)", BAD).due("raid(max, 0)", BAD).due("count(14)", 0)
            .due("raid(19, 0)", 0).due("raid(0, 0)", 1).due("pattern(0)", 1 + (1 << 19)).due("count(14)", 2);
    }

    // "STATE: it isn't WHOLE"
    static void promise16EachState() {
        alone(0, 0, 0, 10, 0).due("mend(0, 2)", 1).due("raid(0, 0)", STATE).due("count(3)", 0).due("frameTold(0, 4)", 2)
            .due("mend(0, 1)", 1).due("raid(0, 0)", 0).due("raid(0, 0)", STATE).due("raid(0, 11)", STATE).due("raid(0, 12)", BAD)
            .due("count(3)", 1).due("mend(0, 0)", 1).due("raid(0, 0)", 1);
    }

    // "RAIDS (30 at most, numbered from 0)"
    static void promise16TheThirtiethAndOneMore() {
        Run x = alone(0, 0, 0, 10, 0);
        for (int r = 0; r < 30; r++) {
            x.due("suspects(" + r + ", 0)", BAD).due("raid(0, " + r % 12 + ")", r).due("suspects(" + r + ", 0)", 0)
                .due("mend(0, 0)", 1).due("count(3)", r + 1);
        }
        x.due("raid(0, 0)", FULL).due("frameTold(0, 4)", 0).due("pattern(0)", 0).due("count(3)", 30).due("raid(0, 12)", BAD)
            .due("raid(1, 0)", BAD).due("mend(0, 2)", 1).due("raid(0, 0)", STATE).due("suspects(30, 0)", BAD)
            .due("suspects(29, 0)", 0);
    }

    // "FRAMES (bits)": the first and the last of 20, and all of them
    static void promise17FirstAndLastBit() {
        Run x = run().then("shop(0, 0)");
        x.times(20, "frame(0, 0, 10, 0)").due("pattern(0)", 0).due("pattern(1)", 0);
        int struck = 0;
        for (int f = 19; f >= 0; f--) {
            struck |= 1 << f;
            x.then("raid(" + f + ", 0)").due("pattern(0)", struck).due("pattern(1)", (1 << 20) - 1 & ~struck);
        }
        x.due("pattern(-1)", BAD).due("pattern(2)", BAD).due("pattern(min)", BAD).due("pattern(max)", BAD);
    }

    // "BROKEN by a RAID of NIGHT (and not mended since)"
    static void promise17JustOfThisNight() {
        alone(0, 0, 0, 10, 0).then("raid(0, 11)").due("pattern(0)", 1).then("pass(1)").due("pattern(0)", 0).due("count(14)", 1)
            .then("mend(0, 0)").due("pattern(0)", 0).then("raid(0, 0)").due("pattern(0)", 1).then("mend(0, 0)").due("pattern(0)", 0)
            .then("mend(0, 2)").due("pattern(0)", 0).then("mend(0, 1)").due("pattern(0)", 0).then("raid(0, 0)").due("pattern(0)", 1)
            .then("pass(60)").due("pattern(0)", 0);
    }

    static void promise17InTheLastNight() {
        alone(0, 0, 0, 10, 0).then("frame(0, 0, 10, 0)").nights(399).then("raid(0, 11)").due("pattern(0)", 1)
            .due("pattern(1)", 2).due("left()", 0);
    }

    // "SPARED all WHOLE ones of SHOPS that have STRUCK ones": not hidden ones, broken ones, ones of other shops
    static void promise17WhoIsSpared() {
        run().then("shop(0, 0)", "shop(0, 0)", "frame(0, 0, 10, 0)", "frame(0, 0, 10, 0)", "frame(0, 0, 10, 0)",
            "frame(0, 1, 10, 0)", "raid(2, 0)", "pass(1)").due("pattern(1)", 0).then("raid(0, 0)").due("pattern(1)", 2)
            .then("mend(1, 2)").due("pattern(1)", 0).then("mend(1, 1)", "mend(2, 0)").due("pattern(1)", 2 + 4)
            .then("raid(3, 0)").due("pattern(1)", 2 + 4).then("mend(0, 0)").due("pattern(1)", 0).due("pattern(0)", 8);
    }

    // In each shop, the first and the last one, too
    static void promise17SparedInEachShop() {
        for (int s = 0; s < 8; s++) {
            Run x = run().times(8, "shop(0, 0)");
            for (int f = 0; f < 16; f++) {
                x.then("frame(0, " + f % 8 + ", 10, 0)");
            }
            x.then("raid(" + (8 + s) + ", 0)").due("pattern(0)", 256 << s).due("pattern(1)", 1 << s)
                .then("raid(" + (7 - s) + ", 0)").due("pattern(1)", 1 << s | 256 << 7 - s);
        }
    }

    // "0, if nothing is STRUCK"
    static void promise18NothingStruck() {
        run().due("left()", 0).due("form(0)", NONE);
        alone(0, 0, 0, 10, 0).due("left()", 0).due("form(0)", NONE).then("raid(0, 0)").due("left()", 500).then("pass(1)")
            .due("left()", 0).due("form(0)", NONE).then("mend(0, 0)").due("left()", 0).then("raid(0, 0)").due("left()", 500)
            .then("mend(0, 0)").due("left()", 0).due("form(0)", NONE).due("form(499)", NONE);
    }

    // Alone each field fits one number by =, and all others by < or >, from 0 to 99.
    static void promise18LeastAndGreatestFields() {
        int[][] frames = {{0, 0, 0, 10, 0}, {7, 99, 5, 60, 99}, {3, 50, 2, 33, 1}, {7, 0, 5, 10, 98}};
        for (int[] f : frames) {
            Run x = alone(f[0], f[1], f[2], f[3], f[4]).then("raid(0, 0)").due("left()", 500);
            int[] fields = {f[3], f[4], f[2], f[1], f[0]};
            for (int field = 0; field < 5; field++) {
                int v = fields[field];
                int ahead = 100 * field;
                x.due("form(" + ahead + ")", 300 * field + (v < 99 ? v + 1 : 199))
                    .due("form(" + (ahead + 99 - v) + ")", 300 * field + 100 + v)
                    .due("form(" + (ahead + 99) + ")", 300 * field + (v > 0 ? 200 + v - 1 : 100));
            }
            x.due("form(500)", NONE).due("form(-1)", NONE);
        }
    }

    // One beside another that has 1 more or 1 less of one field: just this side of each bound parts them.
    static void promise18OneMoreOrLess() {
        oneBeside(new int[] {0, 30, 5}, new int[] {0, 31, 5}, 31, 130);
        oneBeside(new int[] {0, 30, 5}, new int[] {0, 29, 5}, 130, 229);
        oneBeside(new int[] {0, 30, 0}, new int[] {0, 30, 1}, 301, 400);
        oneBeside(new int[] {0, 30, 99}, new int[] {0, 30, 98}, 499, 598);
        oneBeside(new int[] {0, 30, 5}, new int[] {1, 30, 5}, 601, 700);
        oneBeside(new int[] {5, 30, 5}, new int[] {4, 30, 5}, 705, 804);
    }

    private static void oneBeside(int[] struck, int[] spared, int first, int second) {
        run().then("shop(4, 44)", "frame(" + struck[0] + ", 0, " + struck[1] + ", " + struck[2] + ")",
            "frame(" + spared[0] + ", 0, " + spared[1] + ", " + spared[2] + ")", "raid(0, 0)").due("left()", 2)
            .due("form(0)", first).due("form(1)", second).due("form(2)", NONE);
    }

    // Both in one shop are alike in what the shop pays and where it is: no form of these parts them.
    static void promise18AlikeOnes() {
        alone(7, 99, 5, 60, 99).then("frame(5, 0, 60, 99)", "raid(0, 0)").due("left()", 0).due("form(0)", NONE)
            .then("raid(1, 0)").due("left()", 500);
    }

    // What was broken in the night ahead, is hidden or is another shop's, is neither STRUCK nor SPARED: forms may fit it or not.
    static void promise18JustStruckAndSparedOnesCount() {
        run().then("shop(0, 0)", "shop(0, 0)", "frame(0, 0, 10, 0)", "frame(0, 0, 20, 0)", "frame(0, 1, 30, 0)",
            "frame(0, 0, 40, 0)", "frame(0, 0, 25, 0)", "raid(0, 0)", "pass(1)", "mend(1, 2)", "raid(4, 0)")
            .due("pattern(0)", 16).due("pattern(1)", 8).due("left()", 16).due("form(0)", 26).due("form(14)", 40)
            .due("form(15)", 125).due("form(16)", NONE).then("mend(0, 0)").due("pattern(1)", 1 + 8).due("left()", 1)
            .due("form(0)", 125).then("raid(3, 0)").due("left()", 15).due("form(0)", 210).due("form(14)", 224)
            .due("form(15)", NONE).then("pass(1)").due("left()", 0);
    }

    // "NONE: none such"
    static void promise19FirstAndLast() {
        alone(0, 0, 0, 10, 0).then("raid(0, 0)").due("form(0)", 11).due("form(499)", 1300).due("form(500)", NONE)
            .due("form(-1)", NONE).due("form(min)", NONE).due("form(max)", NONE).due("form(1499)", NONE).due("form(1500)", NONE);
        alone(7, 99, 5, 60, 99).then("raid(0, 0)").due("form(0)", 61).due("form(499)", 1406).due("form(500)", NONE);
    }

    // "a FORM (0 .. 1499)"
    static void promise20FirstAndLastForm() {
        alone(7, 99, 5, 60, 99).due("sends(-1)", BAD).due("sends(1500)", BAD).due("sends(min)", BAD).due("sends(max)", BAD)
            .due("sends(0)", NONE).due("sends(1499)", NONE).due("sends(60)", NONE).due("sends(61)", 0).due("sends(99)", 0)
            .due("sends(1406)", 0).due("sends(1407)", NONE);
    }

    // Each FIELD and each SIGN at its least and its greatest number: FIELD f by 300, SIGN f by 100 modulo 3, number f modulo 100
    static void promise20EachFieldAndSign() {
        int[][] shops = {{0, 0, 0, 10, 0}, {7, 99, 5, 60, 99}, {3, 40, 2, 35, 50}};
        for (int[] f : shops) {
            Run x = alone(f[0], f[1], f[2], f[3], f[4]);
            int[] fields = {f[3], f[4], f[2], f[1], f[0]};
            for (int form = 0; form < 1500; form += form % 100 == 0 ? 1 : form % 100 == 98 ? 1 : form % 100 == 99 ? 1 : 97) {
                int v = fields[form / 300];
                int number = form % 100;
                boolean fits = form / 100 % 3 == 0 ? v < number : form / 100 % 3 == 1 ? v == number : v > number;
                x.due("sends(" + form + ")", fits ? 0 : NONE);
            }
            for (int field = 0; field < 5; field++) {
                int at = 300 * field + fields[field];
                x.due("sends(" + at + ")", NONE).due("sends(" + (at + 100) + ")", 0).due("sends(" + (at + 200) + ")", NONE);
                if (fields[field] < 99) {
                    x.due("sends(" + (at + 1) + ")", 0).due("sends(" + (at + 101) + ")", NONE).due("sends(" + (at + 201) + ")", NONE);
                }
                if (fields[field] > 0) {
                    x.due("sends(" + (at - 1) + ")", NONE).due("sends(" + (at + 99) + ")", NONE).due("sends(" + (at + 199) + ")", 0);
                }
            }
        }
    }

    // "to the SHOP without STRUCK ones that has the most ..., of like ones the least (none, if none has one)"
    static void promise20MostOfLikeOnesTheLeast() {
        Run x = run();
        for (int s = 0; s < 8; s++) {
            x.then("shop(0, 0)");
        }
        x.due("sends(99)", NONE).then("frame(0, 7, 10, 0)").due("sends(99)", 7).then("frame(0, 6, 10, 0)").due("sends(99)", 6)
            .then("frame(0, 7, 10, 0)").due("sends(99)", 7).then("frame(0, 0, 10, 0)").due("sends(99)", 7)
            .then("frame(0, 0, 10, 0)").due("sends(99)", 0).then("frame(0, 6, 11, 0)", "frame(0, 6, 12, 0)").due("sends(99)", 6)
            .due("sends(12)", 0).due("sends(11)", 0).then("raid(2, 0)").due("sends(99)", 6).then("raid(3, 0)")
            .due("sends(11)", 6).then("raid(1, 0)").due("sends(99)", NONE).then("pass(1)").due("sends(99)", 6);
    }

    static void promise20TheNinthAndTheTenthFrame() {
        Run x = run().then("shop(0, 0)", "shop(0, 0)");
        x.times(10, "frame(0, 0, 10, 0)").times(9, "frame(0, 1, 10, 0)").due("sends(99)", 0).then("mend(0, 2)")
            .due("sends(99)", 0).then("mend(1, 2)").due("sends(99)", 1).then("frame(0, 0, 60, 0)").due("sends(99)", 0)
            .due("sends(60)", 1).due("sends(61)", 0);
    }
}

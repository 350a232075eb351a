/** Terms, part 6, and promises 34 to 40: what each sentence says of its bounds. */
public final class SoldiersBoundsTest {
    private static final Due due = new Due("SoldiersBoundsTest");
    private static final int NONE = -1, BAD = -2, FULL = -4;

    public static void main(String[] args) {
        Tests.runAll(SoldiersBoundsTest.class, due);
        due.end();
    }

    private static Run run() {
        return new Run(due);
    }

    private static Run shopIn(int... villages) {
        Run x = run();
        for (int v : villages) {
            x.then("shop(" + v + ", 0)");
        }
        return x;
    }

    // "n of them (0 .. 8)", "one at each at most": each number, with a shop in each village
    static void promise34NoneToEight() {
        Run x = shopIn(0, 1, 2, 3, 4, 5, 6, 7);
        for (int n = 0; n <= 8; n++) {
            x.due("parties(" + n + ", 0, 0, 0)", (1 << n) - 1).due("parties(" + n + ", 0, 0, 1)", n)
                .due("parties(" + n + ", 99, 399, 0)", (1 << n) - 1).due("parties(" + n + ", 99, 399, 1)", n);
        }
        x.due("parties(9, 0, 0, 0)", BAD).due("parties(-1, 0, 0, 0)", BAD).due("parties(min, 0, 0, 0)", BAD)
            .due("parties(max, 0, 0, 0)", BAD).due("parties(8, 0, 0, -1)", BAD).due("parties(8, 0, 0, 2)", BAD);
    }

    // More parties than villages with shops: the rest lie at the least villages; n of them, no fewer
    static void promise34MoreThanAreNeeded() {
        int[] sets = {0, 128, 129, 131, 135, 143, 159, 191, 255};
        Run x = shopIn(7);
        for (int n = 0; n <= 8; n++) {
            x.due("parties(" + n + ", 0, 0, 0)", sets[n]).due("parties(" + n + ", 0, 0, 1)", n == 0 ? 0 : 1);
        }
    }

    // "at most so many HOURS FAR": just as many are enough, for each number of hours, in bright and in dark nights
    static void promise34JustSoManyHours() {
        for (int road = 1; road <= 9; road++) {
            Run x = shopIn(3, 6).then("road(3, 6, " + road + ")");
            for (int hours = 0; hours <= 10; hours++) {
                x.due("parties(1, " + hours + ", 8, 1)", hours >= road ? 2 : 1)
                    .due("parties(1, " + hours + ", 22, 1)", hours >= road ? 2 : 1)
                    .due("parties(1, " + hours + ", 7, 1)", hours > road ? 2 : 1)
                    .due("parties(1, " + hours + ", 23, 1)", hours > road ? 2 : 1);
            }
        }
    }

    // "HOURS (0 .. 99)": 99 is no way where there is none; the longest way takes 70.
    static void promise34LeastAndMostHours() {
        Run x = shopIn(0, 7).due("parties(1, 99, 0, 1)", 1).due("parties(1, 98, 0, 1)", 1).due("parties(1, 100, 0, 1)", BAD)
            .due("parties(1, -1, 0, 1)", BAD).due("parties(1, min, 0, 1)", BAD).due("parties(1, max, 0, 1)", BAD);
        for (int v = 0; v < 7; v++) {
            x.then("road(" + v + ", " + (v + 1) + ", 9)");
        }
        x.due("parties(1, 39, 0, 1)", 1).due("parties(1, 40, 0, 1)", 2).due("parties(1, 40, 0, 0)", 8)
            .due("parties(1, 69, 0, 0)", 2).due("parties(1, 70, 0, 0)", 1).due("parties(1, 99, 0, 0)", 1)
            .due("parties(1, 35, 8, 1)", 1).due("parties(1, 36, 8, 1)", 2).due("parties(1, 0, 0, 0)", 1);
    }

    static void promise34FirstAndLastNight() {
        shopIn(0, 1).then("road(0, 1, 5)").due("parties(1, 5, 0, 1)", 1).due("parties(1, 5, 399, 1)", 2)
            .due("parties(1, 5, 398, 1)", 2).due("parties(1, 5, 397, 1)", 1).due("parties(1, 5, 400, 1)", BAD)
            .due("parties(1, 5, -1, 1)", BAD).due("parties(1, 5, min, 1)", BAD).due("parties(1, 5, max, 1)", BAD);
    }

    // "most SHOPS", all 8 in one village or two; "of like ones the least set as bits"
    static void promise34LikeOnes() {
        shopIn(7, 7, 7, 7, 7, 7, 7, 7).due("parties(1, 0, 0, 0)", 128).due("parties(1, 0, 0, 1)", 8).due("parties(0, 0, 0, 1)", 0)
            .due("parties(7, 0, 0, 0)", 128 + 63);
        shopIn(6, 7, 6, 7).due("parties(1, 0, 0, 0)", 64).then("shop(7, 0)").due("parties(1, 0, 0, 0)", 128)
            .due("parties(2, 0, 0, 0)", 192).due("parties(2, 0, 0, 1)", 5);
        shopIn(1, 2, 4).then("road(1, 0, 1)", "road(2, 0, 1)").due("parties(1, 1, 8, 0)", 1).due("parties(1, 2, 8, 0)", 1)
            .due("parties(1, 0, 8, 0)", 2).due("parties(2, 1, 8, 0)", 1 + 16).due("parties(2, 1, 8, 1)", 3);
    }

    // "worth -99 .. 99 to owners, and to men"; "CLAUSES (8 at most, numbered from 0)"
    static void promise35LeastAndMostWorth() {
        run().due("clause(-99, 99)", 0).due("clause(99, -99)", 1).due("clause(-100, 0)", BAD).due("clause(100, 0)", BAD)
            .due("clause(0, -100)", BAD).due("clause(0, 100)", BAD).due("clause(min, 0)", BAD).due("clause(max, 0)", BAD)
            .due("clause(0, min)", BAD).due("clause(0, max)", BAD).due("count(8)", 2).due("offer(99, -99)", 2)
            .due("offer(100, -999)", NONE).due("offer(-99, 99)", 1).due("offer(-99, 100)", NONE).due("offer(-98, 1)", NONE);
    }

    static void promise35TheEighthAndOneMore() {
        Run x = run();
        for (int c = 0; c < 8; c++) {
            x.due("against(0, " + c + ")", BAD).due("clause(0, " + (c + 1) + ")", c).due("count(8)", c + 1)
                .due("offer(0, 0)", (2 << c) - 1);
        }
        x.due("clause(0, 9)", FULL).due("clause(100, 0)", BAD).due("count(8)", 8).due("offer(0, 36)", 255).due("offer(0, 37)", NONE);
    }

    // "Two CLAUSES don't go together": each two of eight, told either way; never one and itself
    static void promise36EachTwo() {
        Run x = run().times(8, "clause(1, 1)");
        for (int a = 0; a < 8; a++) {
            x.due("against(" + a + ", " + a + ")", BAD);
            for (int b = a + 1; b < 8; b++) {
                x.due("against(" + (a % 2 == 0 ? a + ", " + b : b + ", " + a) + ")", 1)
                    .due("against(" + b + ", " + a + ")", 0).due("against(" + a + ", " + b + ")", 0);
            }
        }
        x.due("against(8, 0)", BAD).due("against(0, 8)", BAD).due("against(-1, 0)", BAD).due("against(0, -1)", BAD)
            .due("against(min, 0)", BAD).due("against(0, max)", BAD).due("offer(0, 0)", 1).due("offer(1, 1)", 1)
            .due("offer(2, 0)", NONE).due("offer(0, 2)", NONE);
    }

    static void promise36FirstAndLast() {
        run().times(8, "clause(1, 1)").due("offer(0, 0)", 255).due("against(7, 0)", 1).due("offer(0, 0)", 127)
            .due("against(0, 7)", 0).due("against(6, 7)", 1).due("offer(0, 0)", 127).due("against(0, 6)", 1)
            .due("offer(0, 0)", 1 + 62).due("offer(0, 7)", NONE);
    }

    // "worth at least a told number": eight together, just as much, and one more
    static void promise37AllEight() {
        run().times(8, "clause(99, 99)").due("offer(792, 792)", 255).due("offer(793, 0)", NONE).due("offer(0, 793)", NONE)
            .due("offer(693, 693)", 255).due("offer(999, 0)", NONE).due("offer(-999, -999)", 255);
        run().times(8, "clause(-99, 99)").due("offer(-792, 792)", 255).due("offer(-791, 0)", 127).due("offer(-999, 792)", 255)
            .due("offer(-999, 793)", NONE).due("offer(-99, 0)", 1).due("offer(-98, 0)", 0).due("offer(-98, 1)", NONE);
        run().times(8, "clause(99, -99)").due("offer(792, -792)", 255).due("offer(792, -791)", NONE).due("offer(0, 0)", 0)
            .due("offer(693, -999)", 127).due("offer(694, -999)", 255).due("offer(1, -98)", NONE).due("offer(1, -99)", 1);
        run().times(8, "clause(-99, -99)").due("offer(-999, -999)", 0).due("offer(0, 0)", 0).due("offer(0, 1)", NONE);
    }

    // "(-999 .. 999 each)"
    static void promise37LeastAndMostAsked() {
        run().then("clause(99, 99)").due("offer(-999, -999)", 1).due("offer(999, 999)", NONE).due("offer(-1000, 0)", BAD)
            .due("offer(1000, 0)", BAD).due("offer(0, -1000)", BAD).due("offer(0, 1000)", BAD).due("offer(min, 0)", BAD)
            .due("offer(max, 0)", BAD).due("offer(0, min)", BAD).due("offer(0, max)", BAD).due("offer(-999, 999)", NONE)
            .due("offer(99, 99)", 1).due("offer(100, 99)", NONE).due("offer(99, 100)", NONE);
    }

    // "the one worth most to men; then most to owners; then the fewest; then the least set as bits": by 1 each
    static void promise37EachOfTheFourInTurn() {
        run().then("clause(99, 10)", "clause(0, 11)", "against(0, 1)").due("offer(0, 0)", 2);
        run().then("clause(9, 10)", "clause(10, 10)", "against(0, 1)").due("offer(0, 0)", 2);
        run().then("clause(5, 5)", "clause(5, 5)", "clause(10, 10)", "against(2, 0)", "against(2, 1)").due("offer(0, 0)", 4);
        run().then("clause(5, 5)", "clause(5, 5)", "against(1, 0)").due("offer(0, 0)", 1);
        run().then("clause(0, 0)", "clause(0, 0)").due("offer(0, 0)", 0).due("offer(-999, -999)", 0);
        run().then("clause(0, 0)", "clause(3, 3)", "clause(0, 0)", "clause(3, 3)", "against(1, 3)").due("offer(0, 0)", 2);
    }

    // "digits to the base 100, WEEK 0's the lowest (5 of them)": 99 in one WEEK alone, and 0 in the others
    static void promise38EachWeekAlone() {
        long place = 1;
        for (int week = 0; week < 5; week++, place *= 100) {
            Run x = run().due("row(" + 99 * place + ")", 0);
            for (int n = 1; n <= 5; n++) {
                x.due("plan(" + n + ", -1)", week < n ? 33 : 0);
                for (int i = 0; i < n; i++) {
                    x.due("plan(" + n + ", " + i + ")", i == week ? 2 : 0);
                }
            }
        }
    }

    static void promise38LeastAndGreatest() {
        run().due("row(-1)", BAD).due("row(10000000000)", BAD).due("row(min)", BAD).due("row(max)", BAD).due("row(-9999999999)", BAD)
            .due("row(4294967296)", 0).due("row(18446744073)", BAD).due("count(9)", 1).due("row(0)", 1).due("row(9999999999)", 2)
            .due("plan(1, -1)", 33).due("count(9)", 3);
    }

    // "ROWS (6 at most, numbered from 0)": the sixth counts as the first one does.
    static void promise38TheSixthAndOneMore() {
        Run x = run();
        for (int r = 0; r < 5; r++) {
            x.due("row(0)", r).due("count(9)", r + 1).due("plan(1, -1)", 0);
        }
        x.due("row(99)", 5).due("plan(1, -1)", 33).due("row(1)", FULL).due("row(9999)", FULL).due("row(-1)", BAD)
            .due("row(10000000000)", BAD).due("plan(2, -1)", 33).due("count(9)", 6);
    }

    // "half of them, rounded up", "a third of them, rounded up", an offer behind an offer: "as many as raids"
    static void promise39RoundedUp() {
        int[] raids = {0, 1, 2, 3, 4, 5, 6, 7, 97, 98, 99};
        int[] thirds = {0, 1, 1, 1, 2, 2, 2, 3, 33, 33, 33};
        int[] halves = {0, 1, 1, 2, 2, 3, 3, 4, 49, 49, 50};
        for (int i = 0; i < raids.length; i++) {
            run().then("row(" + raids[i] + ")").due("plan(1, -1)", thirds[i]).due("plan(1, 0)", thirds[i] < raids[i] ? 2 : 0);
            // Ahead of a week of 99, which an offer does best, parties are what is left.
            run().then("row(" + (9900 + raids[i]) + ")").due("plan(2, -1)", 33 + halves[i]).due("plan(2, 1)", 2)
                .due("plan(2, 0)", halves[i] < raids[i] ? 1 : 0);
        }
    }

    // "n WEEKS (1 .. 5)", "BAD: n; NONE: none such"
    static void promise39EachNumberOfWeeks() {
        for (int n = -1; n <= 7; n++) {
            Run x = run().then("row(9999999999)");
            for (int i = -3; i <= 7; i++) {
                int most = 33 * ((n + 1) / 2) + 50 * (n / 2);
                int done = n % 2 == 1 ? 2 - i % 2 : i == 0 ? 1 : -1;
                if (n < 1 || n > 5) {
                    x.due("plan(" + n + ", " + i + ")", BAD);
                } else if (i < -1 || i >= n) {
                    x.due("plan(" + n + ", " + i + ")", NONE);
                } else if (i == -1) {
                    x.due("plan(" + n + ", -1)", most);
                } else if (done >= 0) {
                    x.due("plan(" + n + ", " + i + ")", done);
                }
            }
            x.due("plan(" + n + ", min)", n < 1 || n > 5 ? BAD : NONE).due("plan(" + n + ", max)", n < 1 || n > 5 ? BAD : NONE);
        }
        run().due("plan(min, 0)", BAD).due("plan(max, 0)", BAD).due("plan(min, min)", BAD);
    }

    // Six ROWS of 99 each: as one does
    static void promise39SixRowsOfMost() {
        Run x = run().times(6, "row(9999999999)").due("plan(5, -1)", 33 * 3 + 50 * 2);
        int[] done = {2, 1, 2, 1, 2};
        for (int i = 0; i < 5; i++) {
            x.due("plan(5, " + i + ")", done[i]);
        }
    }

    // "then the least as digits, WEEK 0's first": parties first, then the offer, where each alone is enough
    static void promise39LeastDigits() {
        run().then("row(202)").due("plan(2, -1)", 2).due("plan(2, 0)", 1).due("plan(2, 1)", 2);
        run().then("row(20202)").due("plan(3, -1)", 3).due("plan(3, 0)", 2).due("plan(3, 1)", 1).due("plan(3, 2)", 2);
        run().then("row(20002)").due("plan(3, -1)", 2).due("plan(3, 0)", 2).due("plan(3, 1)", 0).due("plan(3, 2)", 2);
        run().then("row(10101)").due("plan(3, -1)", 3).due("plan(3, 0)", 0).due("plan(3, 1)", 0).due("plan(3, 2)", 0);
        // One row has 2 raids in week 0, the other in week 1: both weeks want something done, and just one an offer.
        run().then("row(2)", "row(200)").due("plan(2, -1)", 1).due("plan(2, 0)", 1).due("plan(2, 1)", 2);
        run().then("row(4)", "row(2)").due("plan(1, -1)", 2).due("plan(1, 0)", 2);
    }

    // "(No ROWS: 0 of them are BROKEN.)"
    static void promise39NoRows() {
        Run x = run();
        for (int n = 1; n <= 5; n++) {
            for (int i = -1; i < n; i++) {
                x.due("plan(" + n + ", " + i + ")", 0);
            }
            x.due("plan(" + n + ", " + n + ")", NONE).due("plan(" + n + ", -2)", NONE);
        }
    }

    static void promise40FirstAndLast() {
        Run x = run();
        for (int what = 0; what < 16; what++) {
            x.due("count(" + what + ")", what == 10 ? 1 : 0);
        }
        x.due("count(-1)", BAD).due("count(16)", BAD).due("count(min)", BAD).due("count(max)", BAD);
    }

    // Each of the three that FRAMES can be: none, one, all 20
    static void promise40WholeBrokenHidden() {
        Run x = run().then("shop(0, 0)");
        x.times(20, "frame(0, 0, 10, 0)").due("count(13)", 20).due("count(14)", 0).due("count(15)", 0);
        for (int f = 0; f < 20; f++) {
            x.then("raid(" + f + ", 0)").due("count(13)", 19 - f).due("count(14)", f + 1).due("count(15)", 0);
        }
        for (int f = 0; f < 20; f++) {
            x.then("mend(" + f + ", 0)", "mend(" + f + ", 2)").due("count(13)", 0).due("count(14)", 19 - f).due("count(15)", f + 1);
        }
    }

    // What is refused is not counted.
    static void promise40RefusedIsNotCounted() {
        run().then("shop(8, 0)", "frame(0, 0, 10, 0)", "raid(0, 0)", "person(8)", "seen(0, 0, 0, 0)", "word(0, 0, 0, 0)",
            "meeting(0, 1, 0)", "clause(100, 0)", "row(-1)", "text()", "feed(9, 0)", "force(1)", "pass(61)")
            .due("count(0)", 0).due("count(1)", 0).due("count(2)", 0).due("count(3)", 0).due("count(4)", 0).due("count(5)", 0)
            .due("count(6)", 0).due("count(7)", 0).due("count(8)", 0).due("count(9)", 0).due("count(10)", 1).due("count(11)", 0)
            .due("count(12)", 0).due("count(13)", 0).due("count(14)", 0).due("count(15)", 0);
    }
}

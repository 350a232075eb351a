/** Terms, part 1, and promises 1 to 4: what each sentence says of its bounds. */
public final class NightsBoundsTest {
    private static final Due due = new Due("NightsBoundsTest");
    private static final int BAD = -2, FULL = -4;

    public static void main(String[] args) {
        Tests.runAll(NightsBoundsTest.class, due);
        due.end();
    }

    private static Run run() {
        return new Run(due);
    }

    private static Run inNight(int night) {
        return run().nights(night).due("count(0)", night);
    }

    // "An object is used for at most 512 calls": the last one of them, too.
    static void promise01TheLastCallThatIsPromised() {
        Run x = run().then("shop(3, 7)");
        for (int i = 0; i < 510; i++) {
            x.due("pays(0, " + i % 100 + ")", i == 0 ? 7 : (i - 1) % 100);
        }
        x.due("pays(0, 50)", 509 % 100);
        due.is("calls", x.calls(), 512);
    }

    static void promise01Constants() {
        due.is("NONE", FrameCounty.NONE, -1);
        due.is("BAD", FrameCounty.BAD, -2);
        due.is("STATE", FrameCounty.STATE, -3);
        due.is("FULL", FrameCounty.FULL, -4);
        due.is("NO", FrameCounty.NO, -4611686018427387904L);
    }

    static void promise01NightIsZeroAtFirst() {
        run().due("count(0)", 0).due("held(0)", 0).due("held(1)", BAD).due("falseWords(1)", BAD);
        run().list("price week;hold week-1;").then("shop(0, 0)", "frame(0, 0, 10, 0)", "person(0)")
            .due("says(0, 0)", 0).due("says(1, 0)", -1);
    }

    // "99: there is none, as all are at first"
    static void promise01NoRoadAtFirst() {
        for (int night : new int[] {0, 7, 8, 22, 23, 399}) {
            Run x = run();
            for (int a = 0; a < 8; a++) {
                for (int b = 0; b < 8; b++) {
                    x.due("far(" + a + ", " + b + ", " + night + ")", a == b ? 0 : 99);
                }
            }
        }
        Run x = run();
        for (int a = 0; a < 8; a++) {
            for (int b = a + 1; b < 8; b++) {
                x.due("road(" + b + ", " + a + ", 9)", 99);
            }
        }
    }

    static void promise01ObjectsShareNothing() {
        FrameCounty first = new FrameCounty();
        Counties.made(Counties.FULL);
        for (int part = 0; part < Tellings.PARTS.size(); part++) {
            FrameCounty other = new FrameCounty();
            Counties.made(Counties.SOME);
            due.holds("a new one is as a new one, part " + part, Tellings.isAsMade(other, Counties.EMPTY, part));
        }
        due.holds("one made ahead of a full one", Tellings.isAsMade(first, Counties.EMPTY, 0));
    }

    // "n NIGHTS (1 .. 60) go by"
    static void promise02EachNumberOfNights() {
        for (int n = 1; n <= 60; n++) {
            run().due("pass(" + n + ")", n).due("count(0)", n);
        }
        for (String n : new String[] {"0", "61", "-1", "-60", "min", "max", "256", "65537"}) {
            run().due("pass(" + n + ")", BAD).due("count(0)", 0).due("pass(60)", 60);
        }
    }

    // "FULL: above 399"
    static void promise02TheLastNight() {
        inNight(339).due("pass(60)", 399).due("pass(1)", FULL).due("count(0)", 399);
        inNight(340).due("pass(60)", FULL).due("count(0)", 340).due("pass(59)", 399);
        inNight(397).due("pass(3)", FULL).due("pass(2)", 399).due("pass(2)", FULL).due("count(0)", 399);
        inNight(398).due("pass(2)", FULL).due("pass(1)", 399).due("pass(60)", FULL).due("count(0)", 399);
        inNight(399).due("pass(1)", FULL).due("pass(0)", BAD).due("pass(61)", BAD).due("pass(max)", BAD)
            .due("pass(min)", BAD).due("count(0)", 399);
    }

    // "the WEEK is it by 7", quotients are cut
    static void promise02TheWeek() {
        int[] nights = {0, 1, 6, 7, 13, 14, 20, 21, 59, 60, 391, 392, 398, 399};
        int[] weeks = {0, 0, 0, 1, 1, 2, 2, 3, 8, 8, 55, 56, 56, 57};
        for (int i = 0; i < nights.length; i++) {
            run().nights(nights[i]).list("price week;hold week;").then("shop(0, 0)", "frame(0, 0, 10, 0)", "person(0)")
                .due("says(0, 0)", weeks[i]).due("says(1, 0)", weeks[i]).due("held(0)", weeks[i] == 0 ? 0 : 1);
        }
    }

    // "a ROAD between two takes 1 .. 9 HOURS both ways"
    static void promise03EachPairBothWays() {
        for (int a = 0; a < 8; a++) {
            for (int b = 0; b < 8; b++) {
                if (a != b) {
                    Run x = run().due("road(" + a + ", " + b + ", 9)", 99).due("far(" + a + ", " + b + ", 8)", 9)
                        .due("far(" + b + ", " + a + ", 8)", 9).due("road(" + b + ", " + a + ", 1)", 9)
                        .due("far(" + a + ", " + b + ", 8)", 1).due("far(" + b + ", " + a + ", 0)", 2);
                    for (int c = 0; c < 8; c++) {
                        x.due("far(" + a + ", " + c + ", 8)", c == a ? 0 : c == b ? 1 : 99);
                    }
                }
            }
        }
    }

    static void promise03OneToNineHoursOrNinetyNine() {
        Run x = run().then("road(2, 5, 4)");
        int was = 4;
        for (int hours = -3; hours <= 203; hours++) {
            boolean takes = hours >= 1 && hours <= 9 || hours == 99;
            x.due("road(2, 5, " + hours + ")", takes ? was : BAD);
            was = takes ? hours : was;
            x.due("far(5, 2, 8)", was);
        }
        x.due("road(5, 2, min)", BAD).due("road(5, 2, max)", BAD).due("road(2, 5, 1)", 99);
    }

    // "A ROAD between two": there is none from one to itself.
    static void promise03OneAndItself() {
        Run x = run();
        for (int a = 0; a < 8; a++) {
            x.due("road(" + a + ", " + a + ", 1)", BAD).due("road(" + a + ", " + a + ", 99)", BAD)
                .due("far(" + a + ", " + a + ", 0)", 0).due("far(" + a + ", " + a + ", 8)", 0);
        }
    }

    static void promise03RefusedKeepsTheRoad() {
        run().then("road(0, 7, 9)").due("road(0, 8, 1)", BAD).due("road(-1, 7, 1)", BAD).due("road(0, 7, 10)", BAD)
            .due("road(0, 7, 0)", BAD).due("road(0, 7, 98)", BAD).due("road(0, 7, 100)", BAD).due("far(7, 0, 8)", 9)
            .due("road(7, 0, 1)", 9);
    }

    // "A NIGHT is BRIGHT, if it modulo 30 is 8 .. 22; in one that isn't each ROAD takes 1 more."
    static void promise04FirstAndLastBrightNight() {
        Run x = run().then("road(6, 7, 9)", "road(5, 6, 1)");
        for (int month = 0; month < 400; month += 30) {
            x.due("far(6, 7, " + month + ")", 10).due("far(6, 7, " + (month + 7) + ")", 10)
                .due("far(5, 7, " + (month + 7) + ")", 12).due("far(6, 7, " + (month + 8) + ")", 9)
                .due("far(5, 7, " + (month + 8) + ")", 10);
            if (month + 29 < 400) {
                x.due("far(6, 7, " + (month + 22) + ")", 9).due("far(6, 7, " + (month + 23) + ")", 10)
                    .due("far(6, 5, " + (month + 22) + ")", 1).due("far(6, 5, " + (month + 23) + ")", 2)
                    .due("far(6, 7, " + (month + 29) + ")", 10);
            }
        }
        x.due("far(6, 7, 399)", 9).due("far(6, 7, 397)", 10).due("far(6, 7, 400)", BAD).due("far(6, 7, -1)", BAD);
    }

    // "by the least sum of ROADS": from one road to seven, the longest way that can be
    static void promise04LongestWays() {
        Run x = run();
        for (int v = 0; v < 7; v++) {
            x.then("road(" + v + ", " + (v + 1) + ", 9)").due("far(0, " + (v + 1) + ", 8)", 9 * (v + 1))
                .due("far(" + (v + 1) + ", 0, 0)", 10 * (v + 1));
        }
        x.due("road(7, 0, 9)", 99).due("far(0, 7, 8)", 9).due("far(0, 4, 8)", 36).due("far(0, 4, 0)", 40);
    }

    // Each village alone between two others, the first and the last one, too
    static void promise04ByEachVillage() {
        for (int by = 0; by < 8; by++) {
            int a = (by + 1) % 8;
            int b = (by + 7) % 8;
            run().then("road(" + a + ", " + by + ", 9)", "road(" + by + ", " + b + ", 1)").due("far(" + a + ", " + b + ", 8)", 10)
                .due("far(" + b + ", " + a + ", 0)", 12);
        }
    }

    static void promise04AllRoads() {
        Run x = run();
        for (int a = 0; a < 8; a++) {
            for (int b = 0; b < a; b++) {
                x.then("road(" + a + ", " + b + ", 9)");
            }
        }
        x.due("far(0, 7, 8)", 9).due("far(0, 7, 0)", 10).due("road(0, 3, 1)", 9).due("road(3, 7, 7)", 9).due("far(0, 7, 8)", 8)
            .due("far(0, 7, 0)", 10).due("road(3, 7, 8)", 7).due("far(0, 7, 8)", 9).due("far(0, 7, 0)", 10)
            .due("road(3, 7, 6)", 8).due("far(0, 7, 0)", 9);
    }

    // "99: none": in a dark night, too, and once the only road is none again
    static void promise04NoneIsNinetyNine() {
        run().then("road(0, 1, 9)", "road(2, 3, 9)").due("far(1, 2, 0)", 99).due("far(1, 2, 8)", 99).due("far(0, 3, 399)", 99)
            .then("road(1, 2, 9)").due("far(0, 3, 0)", 30).then("road(1, 2, 99)").due("far(0, 3, 0)", 99)
            .due("far(0, 3, 8)", 99).due("far(0, 1, 0)", 10).due("far(2, 3, 8)", 9);
    }

    static void promise04OneAndItself() {
        Run x = run().then("road(0, 1, 1)", "road(1, 2, 1)", "road(2, 0, 1)");
        for (int v = 0; v < 8; v++) {
            x.due("far(" + v + ", " + v + ", 0)", 0).due("far(" + v + ", " + v + ", 399)", 0);
        }
        x.due("far(8, 8, 0)", BAD).due("far(-1, -1, 0)", BAD).due("far(0, 0, 400)", BAD).due("far(0, 0, -1)", BAD);
    }

    static void promise04TheNightIsAnyNotJustThisOne() {
        inNight(20).then("road(0, 1, 5)").due("far(0, 1, 0)", 6).due("far(0, 1, 20)", 5).due("far(0, 1, 23)", 6)
            .due("far(0, 1, 399)", 5);
    }
}

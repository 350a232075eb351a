/** Terms, part 2, and promises 5 to 11: what each sentence says of its bounds. */
public final class ShopsBoundsTest {
    private static final Due due = new Due("ShopsBoundsTest");
    private static final long NO = FrameCounty.NO;
    private static final int NONE = -1, BAD = -2, STATE = -3, FULL = -4;

    public static void main(String[] args) {
        Tests.runAll(ShopsBoundsTest.class, due);
        due.end();
    }

    private static Run run() {
        return new Run(due);
    }

    // "a VILLAGE": 0 and 7 are kept as told.
    static void promise05FirstAndLastVillage() {
        for (int v = 0; v < 8; v++) {
            run().due("shop(" + v + ", 5)", 0).due("parties(1, 0, 0, 0)", 1 << v).then("frame(0, 0, 10, 0)")
                .due("sends(" + (1300 + v) + ")", 0).due("sends(" + (1301 + v) + ")", NONE);
        }
        run().due("shop(-1, 5)", BAD).due("shop(8, 5)", BAD).due("count(1)", 0).due("shop(7, 5)", 0);
    }

    // "PAYS (0 .. 99, for a dozen)"
    static void promise05LeastAndMostPays() {
        run().due("shop(0, 0)", 0).due("shop(0, 99)", 1).due("shop(0, -1)", BAD).due("shop(0, 100)", BAD).due("count(1)", 2)
            .due("pays(0, 1)", 0).due("pays(1, 1)", 99);
    }

    // "SHOPS (8 at most, numbered from 0)"
    static void promise05TheEighthAndTheNinth() {
        Run x = run().due("count(1)", 0);
        for (int s = 0; s < 8; s++) {
            x.due("shop(0, " + 10 * s + ")", s).due("count(1)", s + 1).due("pays(" + (s + 1) + ", 1)", BAD);
        }
        x.due("shop(0, 50)", FULL).due("shop(0, 50)", FULL).due("shop(8, 50)", BAD).due("count(1)", 8);
        for (int s = 0; s < 8; s++) {
            x.due("pays(" + s + ", 5)", 10 * s);
        }
        x.due("pays(8, 5)", BAD);
    }

    static void promise06LeastAndMost() {
        run().then("shop(0, 50)").due("pays(0, 0)", 50).due("pays(0, 99)", 0).due("pays(0, 99)", 99).due("pays(0, 100)", BAD)
            .due("pays(0, -1)", BAD).due("pays(0, min)", BAD).due("pays(0, max)", BAD).due("pays(0, 0)", 99)
            .due("pays(0, 1)", 0).due("pays(0, 100)", BAD).due("pays(0, -1)", BAD).due("pays(0, 50)", 1);
    }

    static void promise06FirstAndLastShop() {
        Run x = run();
        for (int s = 0; s < 8; s++) {
            x.due("pays(" + s + ", 1)", BAD).then("shop(1, " + s + ")").due("pays(" + s + ", 99)", s);
        }
        x.due("pays(8, 1)", BAD).due("pays(-1, 1)", BAD).due("pays(0, 1)", 99).due("pays(7, 1)", 99);
    }

    // "WIDTH (10 .. 60)", "RENT (0 .. 99)", "KIND: 0 .. 5", "WHOLE (0, at first)"
    static void promise07EachArgumentIsKept() {
        for (int kind = 0; kind < 6; kind++) {
            for (int width : new int[] {10, 11, 59, 60}) {
                for (int rent : new int[] {0, 1, 98, 99}) {
                    run().then("shop(0, 1)", "shop(0, 2)").due("frame(" + kind + ", 1, " + width + ", " + rent + ")", 0)
                        .due("frameTold(0, 0)", kind).due("frameTold(0, 1)", 1).due("frameTold(0, 2)", width)
                        .due("frameTold(0, 3)", rent).due("frameTold(0, 4)", 0);
                }
            }
        }
    }

    static void promise07OneBeyondEach() {
        run().then("shop(0, 1)").due("frame(-1, 0, 10, 0)", BAD).due("frame(6, 0, 10, 0)", BAD).due("frame(0, -1, 10, 0)", BAD)
            .due("frame(0, 1, 10, 0)", BAD).due("frame(0, 0, 9, 0)", BAD).due("frame(0, 0, 61, 0)", BAD)
            .due("frame(0, 0, 10, -1)", BAD).due("frame(0, 0, 10, 100)", BAD).due("count(2)", 0).due("frameTold(0, 0)", NO)
            .due("frame(5, 0, 60, 99)", 0);
    }

    // A frame wants a shop that is there: seven of eight are not enough for the eighth.
    static void promise07TheShopIsThere() {
        Run x = run();
        for (int s = 0; s < 8; s++) {
            x.due("frame(0, " + s + ", 10, 0)", BAD).then("shop(0, 0)").due("frame(0, " + s + ", 10, 0)", s);
        }
        x.due("frame(0, 8, 10, 0)", BAD).due("count(2)", 8);
    }

    // "FRAMES (20 at most, numbered from 0)"
    static void promise07TheTwentiethAndOneMore() {
        Run x = run().then("shop(0, 0)");
        for (int f = 0; f < 20; f++) {
            x.due("frameTold(" + f + ", 2)", NO).due("frame(" + f % 6 + ", 0, " + (10 + f) + ", " + f + ")", f)
                .due("count(2)", f + 1);
        }
        x.due("frame(0, 0, 60, 99)", FULL).due("frame(6, 0, 60, 99)", BAD).due("count(2)", 20).due("count(13)", 20);
        for (int f = 0; f < 20; f++) {
            x.due("frameTold(" + f + ", 2)", 10 + f).due("frameTold(" + f + ", 3)", f);
        }
        x.due("frameTold(20, 2)", NO);
    }

    // Widths at which quotients are cut, and just not.
    static void promise08Makes() {
        int[] widths = {10, 19, 20, 29, 30, 59, 60};
        int[][] makes = {
            {1, 1, 2, 2, 3, 5, 6},
            {4, 4, 5, 5, 6, 8, 9},
            {0, 0, 1, 1, 2, 4, 5},
            {8, 8, 10, 10, 12, 16, 18},
            {0, 0, 0, 0, 1, 2, 2},
            {4, 4, 8, 8, 12, 20, 24},
        };
        for (int kind = 0; kind < 6; kind++) {
            for (int i = 0; i < widths.length; i++) {
                run().then("shop(0, 1)", "frame(" + kind + ", 0, " + widths[i] + ", 0)")
                    .due("frameTold(0, 5)", makes[kind][i]);
            }
        }
    }

    static void promise08RentThatIsPaid() {
        int[] rents = {0, 1, 2, 3, 98, 99};
        int[][] paid = {
            {0, 1, 2, 3, 98, 99},
            {0, 1, 2, 3, 98, 99},
            {0, 0, 1, 1, 49, 49},
            {2, 3, 4, 5, 100, 101},
            {0, 0, 1, 1, 49, 49},
            {10, 11, 12, 13, 108, 109},
        };
        for (int kind = 0; kind < 6; kind++) {
            for (int i = 0; i < rents.length; i++) {
                int wider = kind == 5 ? 50 : 0;
                run().then("shop(0, 0)", "frame(" + kind + ", 0, 10, " + rents[i] + ")", "frame(" + kind + ", 0, 60, "
                    + rents[i] + ")").due("frameTold(0, 6)", paid[kind][i]).due("frameTold(1, 6)", paid[kind][i] + wider)
                    .due("frameTold(0, 3)", rents[i]);
            }
        }
    }

    static void promise08EarnsMostAndLeast() {
        run().then("shop(0, 99)", "frame(5, 0, 60, 0)", "frame(5, 0, 60, 99)", "frame(3, 0, 60, 99)", "frame(4, 0, 10, 99)")
            .due("frameTold(0, 7)", 24 * 99 - 60).due("frameTold(1, 7)", 24 * 99 - 159).due("frameTold(2, 7)", 18 * 99 - 101)
            .due("frameTold(3, 7)", -49).then("pays(0, 0)").due("frameTold(0, 7)", -60).due("frameTold(1, 7)", -159)
            .then("pays(0, 99)", "raid(1, 0)", "mend(0, 2)").due("frameTold(0, 7)", -60).due("frameTold(1, 7)", -159)
            .due("frameTold(1, 5)", 24).due("frameTold(1, 6)", 159).due("frameTold(0, 4)", 2).due("frameTold(1, 4)", 1);
    }

    // "NO (a long): none such"
    static void promise08NoneSuch() {
        run().then("shop(0, 0)", "frame(0, 0, 10, 0)").due("frameTold(0, -1)", NO).due("frameTold(0, 8)", NO)
            .due("frameTold(-1, 0)", NO).due("frameTold(1, 0)", NO).due("frameTold(1, 8)", NO).due("frameTold(0, min)", NO)
            .due("frameTold(min, 0)", NO).due("frameTold(max, 7)", NO).due("frameTold(0, max)", NO).due("frameTold(0, 7)", 0);
    }

    private static Run inState(int state) {
        Run x = run().then("shop(0, 0)", "frame(0, 0, 10, 0)");
        if (state == 1) {
            x.then("raid(0, 0)");
        } else if (state == 2) {
            x.then("mend(0, 2)");
        }
        return x.due("frameTold(0, 4)", state);
    }

    // From each of the three to each of the three: just one way leads from each.
    static void promise09EachStateAndEachHow() {
        for (int state = 0; state < 3; state++) {
            for (int how = -1; how <= 3; how++) {
                boolean goes = state == 1 && how == 0 || state == 0 && how == 2 || state == 2 && how == 1;
                long answer = how < 0 || how > 2 ? BAD : goes ? 1 : STATE;
                inState(state).due("mend(0, " + how + ")", answer).due("frameTold(0, 4)", goes ? how == 2 ? 2 : 0 : state)
                    .due("count(13)", (goes ? how == 2 ? 2 : 0 : state) == 0 ? 1 : 0);
            }
        }
    }

    static void promise09TheFirstAndTheLastFrame() {
        Run x = run().then("shop(0, 0)");
        x.times(20, "frame(0, 0, 10, 0)");
        x.due("mend(-1, 2)", BAD).due("mend(20, 2)", BAD).due("count(15)", 0).due("mend(19, 2)", 1).due("frameTold(19, 4)", 2)
            .due("mend(0, 2)", 1).due("count(15)", 2).due("mend(19, 1)", 1).due("count(15)", 1).due("frameTold(18, 4)", 0);
    }

    private static void keeps(String price, int pays, int answer) {
        run().list("price " + price + ";hold 0;").then("shop(0, " + pays + ")", "frame(0, 0, 10, 0)").due("keeps(0)", answer);
    }

    // "if its PAYS are not below price": just as much is enough, one less is not.
    static void promise10JustThePrice() {
        keeps("0", 0, 1);
        keeps("1", 0, 0);
        keeps("-1", 0, 1);
        keeps("98", 99, 1);
        keeps("99", 99, 1);
        keeps("100", 99, 0);
        keeps("100", 98, 0);
        keeps("50", 49, 0);
        keeps("50", 50, 1);
        keeps("50", 51, 1);
    }

    // A price is an int that wraps: the greatest, and one more, which is the least.
    static void promise10LeastAndGreatestPrice() {
        keeps("8192*8192*32-1", 99, 0);
        keeps("8192*8192*32", 0, 1);
        keeps("8192*8192*64", 0, 1);
        keeps("8192*8192*64+1", 0, 0);
    }

    static void promise10OneOfTwenty() {
        Run x = run().then("shop(0, 30)", "shop(0, 29)");
        x.times(19, "frame(0, 0, 20, 0)").then("frame(0, 0, 21, 0)").due("keeps(0)", 0).then("pays(0, 31)").due("keeps(0)", 1)
            .due("keeps(1)", 1).then("pays(0, 30)", "mend(19, 2)").due("keeps(0)", 1).then("mend(19, 1)").due("keeps(0)", 0)
            .then("raid(19, 0)").due("keeps(0)", 1).due("keeps(2)", BAD).due("keeps(-1)", BAD);
    }

    static void promise10WithoutWholeFrames() {
        run().then("shop(0, 0)").due("keeps(0)", 1).then("frame(0, 0, 60, 0)").due("keeps(0)", 0).then("mend(0, 2)")
            .due("keeps(0)", 1).due("keeps(1)", BAD);
    }

    static void promise11MostAndLeast() {
        Run x = run().then("shop(0, 99)", "shop(1, 99)");
        x.times(20, "frame(5, 0, 60, 0)").due("earns(0)", 20 * (24 * 99 - 60)).due("earns(1)", 0).due("earns(2)", NO)
            .due("earns(-1)", NO).then("pays(0, 0)").due("earns(0)", -20 * 60);
        Run y = run().then("shop(0, 99)");
        y.times(20, "frame(5, 0, 60, 99)");
        for (int f = 0; f < 20; f++) {
            y.due("earns(0)", (20 - f) * 24 * 99 - 20 * 159).then(f % 2 == 0 ? "raid(" + f + ", 0)" : "mend(" + f + ", 2)");
        }
        y.due("earns(0)", -20 * 159);
    }

    static void promise11EachShopAlone() {
        Run x = run();
        for (int s = 0; s < 8; s++) {
            x.due("earns(" + s + ")", NO).then("shop(0, " + s + ")", "frame(0, " + s + ", 60, 0)").due("earns(" + s + ")", 6 * s);
        }
        x.due("earns(8)", NO).due("earns(min)", NO).due("earns(max)", NO);
    }
}

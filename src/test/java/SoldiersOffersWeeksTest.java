/** Promises 34 to 40: parties, offers, planned weeks, counts. */
public final class SoldiersOffersWeeksTest {
    private static final Due due = new Due("SoldiersOffersWeeksTest");
    private static final int[] WILD = {Integer.MIN_VALUE, -1, Integer.MAX_VALUE};

    public static void main(String[] args) {
        promise34Parties();
        promise34Far();
        promise34NoRoad();
        promise34LongestWay();
        promise35Clause();
        promise36Against();
        promise37Offer();
        promise37LikeOnes();
        promise38Row();
        promise39Plan();
        promise39LikeOnes();
        promise39AllPlans();
        promise40Count();
        due.end();
    }

    private static void promise34Parties() {
        FrameCounty x = new FrameCounty();
        for (int n = 0; n <= 8; n++) {
            due.is("parties of " + n + " without shops", x.parties(n, 0, 0, 0), (1 << n) - 1);
            due.is("shops reached of none", x.parties(n, 99, 0, 1), 0);
        }
        x.shop(6, 1);
        x.shop(6, 1);
        x.shop(2, 1);
        due.is("one where two are", x.parties(1, 0, 0, 0), 64);
        due.is("reaches two", x.parties(1, 0, 0, 1), 2);
        due.is("two reach all", x.parties(2, 0, 0, 0), 64 + 4);
        due.is("all", x.parties(2, 0, 0, 1), 3);
        FrameCounty each = new FrameCounty();
        for (int v = 0; v < 8; v++) {
            each.shop(v, 1);
            due.is("one where the last shop is", each.parties(v + 1, 0, 0, 1), v + 1);
        }
        due.is("three, as told, the least", x.parties(3, 0, 0, 0), 64 + 4 + 1);
        due.is("eight", x.parties(8, 0, 0, 0), 255);
        due.is("none", x.parties(0, 99, 0, 1), 0);
        due.is("none's villages", x.parties(0, 99, 0, 0), 0);
        due.is("parties(9, ..)", x.parties(9, 0, 0, 0), FrameCounty.BAD);
        due.is("hours 100", x.parties(1, 100, 0, 0), FrameCounty.BAD);
        due.is("night 400", x.parties(1, 0, 400, 0), FrameCounty.BAD);
        due.is("what 2", x.parties(1, 0, 0, 2), FrameCounty.BAD);
        due.is("night 399", x.parties(1, 0, 399, 1), 2);
        for (int wild : WILD) {
            due.is("parties " + wild, x.parties(wild, 0, 0, 0), FrameCounty.BAD);
            due.is("hours " + wild, x.parties(1, wild, 0, 0), FrameCounty.BAD);
            due.is("night " + wild, x.parties(1, 0, wild, 0), FrameCounty.BAD);
            due.is("what " + wild, x.parties(1, 0, 0, wild), FrameCounty.BAD);
        }
    }

    private static void promise34Far() {
        FrameCounty x = new FrameCounty();
        x.road(2, 1, 3);
        x.road(2, 3, 3);
        x.road(2, 4, 4);
        for (int village : new int[] {1, 3, 4, 7}) {
            x.shop(village, 1);
        }
        due.is("bright, 3 hours", x.parties(1, 3, 10, 0), 4);
        due.is("reaches two", x.parties(1, 3, 10, 1), 2);
        due.is("bright, 4 hours", x.parties(1, 4, 10, 1), 3);
        due.is("dark, 3 hours: one alone", x.parties(1, 3, 0, 0), 2);
        due.is("dark, 4 hours", x.parties(1, 4, 0, 1), 2);
        due.is("dark, 5 hours", x.parties(1, 5, 0, 1), 3);
        due.is("dark, 5 hours, two", x.parties(2, 5, 0, 0), 4 + 128);
        due.is("dark, 5 hours, two reach", x.parties(2, 5, 0, 1), 4);
        due.is("by two roads", x.parties(1, 7, 10, 0), 2);
        due.is("no road is farther than 98 hours", x.parties(1, 98, 10, 1), 3);
        due.is("nor than 99 hours: there is none", x.parties(1, 99, 10, 1), 3);
        due.is("99 hours, two reach", x.parties(2, 99, 10, 1), 4);
        due.is("99 hours, two", x.parties(2, 99, 10, 0), 2 + 128);
    }

    /** 99 is told of FAR where there is no road: a party of 99 hours doesn't come there. */
    private static void promise34NoRoad() {
        for (int night : new int[] {0, 10, 399}) {
            for (int hours : new int[] {0, 9, 98, 99}) {
                for (int village = 0; village < 8; village++) {
                    FrameCounty x = new FrameCounty();
                    x.shop(village, 0);
                    String told = " of village " + village + ", " + hours + " hours, night " + night;
                    due.is("none" + told, x.parties(0, hours, night, 1), 0);
                    due.is("the one" + told, x.parties(1, hours, night, 0), 1 << village);
                    due.is("its shop" + told, x.parties(1, hours, night, 1), 1);
                    due.is("all" + told, x.parties(8, hours, night, 1), 1);
                }
            }
        }
        FrameCounty x = new FrameCounty();
        x.shop(5, 1);
        x.shop(6, 1);
        due.is("no road yet", x.parties(1, 99, 0, 1), 1);
        x.road(5, 6, 9);
        due.is("a road", x.parties(1, 99, 0, 1), 2);
        due.is("of like ones the least", x.parties(1, 99, 0, 0), 32);
        x.road(5, 6, 99);
        due.is("the road is taken away", x.parties(1, 99, 0, 1), 1);
    }

    /** The longest way that can be stays below 99 hours: seven roads of 10. */
    private static void promise34LongestWay() {
        FrameCounty x = new FrameCounty();
        for (int v = 0; v < 7; v++) {
            x.road(v, v + 1, 9);
        }
        x.shop(0, 1);
        x.shop(7, 1);
        due.is("dark, 69 hours: not from end to end", x.parties(1, 69, 0, 0), 2);
        due.is("dark, 70 hours", x.parties(1, 70, 0, 0), 1);
        due.is("bright, 62 hours: not from end to end", x.parties(1, 62, 10, 0), 2);
        due.is("bright, 63 hours", x.parties(1, 63, 10, 0), 1);
        due.is("dark, 39 hours: from nowhere to both", x.parties(1, 39, 0, 1), 1);
        due.is("dark, 40 hours", x.parties(1, 40, 0, 1), 2);
        due.is("99 hours", x.parties(1, 99, 0, 0), 1);
    }

    private static void promise35Clause() {
        FrameCounty x = new FrameCounty();
        for (int wild : new int[] {Integer.MIN_VALUE, -100, 100, Integer.MAX_VALUE}) {
            due.is("clause(" + wild + ", 0)", x.clause(wild, 0), FrameCounty.BAD);
            due.is("clause(0, " + wild + ")", x.clause(0, wild), FrameCounty.BAD);
        }
        due.is("no clause yet", x.count(8), 0);
        for (int i = 0; i < 8; i++) {
            due.is("clause " + i, x.clause(i % 2 == 0 ? -99 : 99, i % 2 == 0 ? 99 : -99), i);
        }
        due.is("one more", x.clause(0, 0), FrameCounty.FULL);
        due.is("a bad one more", x.clause(100, 0), FrameCounty.BAD);
        due.is("clauses", x.count(8), 8);
        due.is("of all eight", x.offer(0, 0), 0);
        due.is("worth to owners", x.offer(99 * 4, -999), 2 + 8 + 32 + 128);
    }

    private static void promise36Against() {
        FrameCounty x = new FrameCounty();
        due.is("against of none", x.against(0, 1), FrameCounty.BAD);
        x.clause(1, 1);
        x.clause(1, 1);
        x.clause(1, 1);
        due.is("one and itself", x.against(1, 1), FrameCounty.BAD);
        due.is("against(0, 3)", x.against(0, 3), FrameCounty.BAD);
        due.is("against(3, 0)", x.against(3, 0), FrameCounty.BAD);
        for (int wild : WILD) {
            due.is("against(" + wild + ", 0)", x.against(wild, 0), FrameCounty.BAD);
            due.is("against(0, " + wild + ")", x.against(0, wild), FrameCounty.BAD);
        }
        due.is("all go together", x.offer(0, 0), 7);
        due.is("against(2, 0)", x.against(2, 0), 1);
        due.is("against(2, 0) again", x.against(2, 0), 0);
        due.is("against(0, 2)", x.against(0, 2), 0);
        due.is("they still don't", x.offer(0, 0), 3);
        due.is("against(0, 1)", x.against(0, 1), 1);
        due.is("two of three go together", x.offer(0, 0), 6);
        due.is("against(1, 2)", x.against(1, 2), 1);
        due.is("against(1, 2) again", x.against(1, 2), 0);
        due.is("against(2, 1)", x.against(2, 1), 0);
        due.is("one alone", x.offer(0, 0), 1);
        due.is("two are not to be had", x.offer(2, 0), FrameCounty.NONE);
    }

    private static void promise37Offer() {
        FrameCounty x = new FrameCounty();
        due.is("nothing, worth nothing", x.offer(0, 0), 0);
        due.is("nothing, worth less than told", x.offer(1, 0), FrameCounty.NONE);
        due.is("nothing, worth less to men", x.offer(0, 1), FrameCounty.NONE);
        due.is("nothing, worth enough", x.offer(-999, -999), 0);
        x.clause(50, -20);
        x.clause(-30, 40);
        x.clause(-40, 45);
        due.is("most to men, owners not below 0", x.offer(0, 0), 1 + 4);
        due.is("just as much to owners", x.offer(10, 0), 1 + 4);
        due.is("a bit more to owners", x.offer(11, 0), 1 + 2);
        due.is("more to owners", x.offer(21, -20), 1);
        due.is("less to owners", x.offer(-20, 0), 1 + 2 + 4);
        due.is("much less to owners", x.offer(-70, 0), 2 + 4);
        due.is("too much to men", x.offer(0, 26), FrameCounty.NONE);
        due.is("all that men can have", x.offer(-999, 85), 2 + 4);
        due.is("more than they can", x.offer(-999, 86), FrameCounty.NONE);
        for (int wild : new int[] {Integer.MIN_VALUE, -1000, 1000, Integer.MAX_VALUE}) {
            due.is("offer(" + wild + ", 0)", x.offer(wild, 0), FrameCounty.BAD);
            due.is("offer(0, " + wild + ")", x.offer(0, wild), FrameCounty.BAD);
        }
        due.is("offer(999, 999)", x.offer(999, 999), FrameCounty.NONE);
    }

    private static void promise37LikeOnes() {
        FrameCounty x = new FrameCounty();
        x.clause(5, 10);
        x.clause(6, 10);
        x.against(0, 1);
        due.is("like to men: most to owners", x.offer(0, 0), 2);
        x.clause(0, 0);
        due.is("like to both: the fewest", x.offer(0, 0), 2);
        x.clause(2, 4);
        x.clause(4, 6);
        x.clause(6, 10);
        x.against(5, 1);
        x.against(5, 3);
        x.against(5, 4);
        x.against(5, 0);
        x.against(1, 3);
        x.against(1, 4);
        due.is("5 and 10 with 6 and 10", x.offer(0, 0), 1 + 8 + 16);
        x.against(0, 3);
        x.against(0, 4);
        due.is("fewest: 1 alone, of like ones the least", x.offer(0, 0), 2);
        FrameCounty y = new FrameCounty();
        y.clause(3, 3);
        y.clause(3, 3);
        y.clause(6, 6);
        y.against(0, 2);
        y.against(1, 2);
        due.is("one of 6 is fewer than two of 3", y.offer(0, 0), 4);
        FrameCounty z = new FrameCounty();
        z.clause(3, 3);
        z.clause(3, 3);
        z.against(0, 1);
        due.is("the least of like ones", z.offer(0, 0), 1);
    }

    private static void promise38Row() {
        FrameCounty x = new FrameCounty();
        due.is("row(-1)", x.row(-1L), FrameCounty.BAD);
        due.is("row(10^10)", x.row(10000000000L), FrameCounty.BAD);
        due.is("row(min)", x.row(Long.MIN_VALUE), FrameCounty.BAD);
        due.is("row(max)", x.row(Long.MAX_VALUE), FrameCounty.BAD);
        due.is("no row yet", x.count(9), 0);
        due.is("row(0)", x.row(0L), 0);
        due.is("row of all 99", x.row(9999999999L), 1);
        due.is("99 in all weeks by offers and soldiers", x.plan(1, -1), 33);
        for (int i = 2; i < 6; i++) {
            due.is("row " + i, x.row(i), i);
        }
        due.is("one more", x.row(0L), FrameCounty.FULL);
        due.is("a bad one more", x.row(-1L), FrameCounty.BAD);
        due.is("rows", x.count(9), 6);
        FrameCounty y = new FrameCounty();
        y.row(1L + 100L * 3 + 10000L * 5 + 1000000L * 7 + 100000000L * 11);
        // One raid in week 0 is broken whatever is done; offers do best in weeks 2 and 4.
        int[] sums = {1, 2, 4, 7, 10};
        for (int n = 1; n <= 5; n++) {
            due.is("plan(" + n + ", -1)", y.plan(n, -1), bestOf(new int[][] {{1, 3, 5, 7, 11}}, n)[0]);
            due.holds("at most " + sums[n - 1] + " more", y.plan(n, -1) <= sums[n - 1] + n);
        }
    }

    private static void promise39Plan() {
        FrameCounty x = new FrameCounty();
        due.is("plan(0, 0)", x.plan(0, 0), FrameCounty.BAD);
        due.is("plan(6, 0)", x.plan(6, 0), FrameCounty.BAD);
        due.is("plan(6, -2)", x.plan(6, -2), FrameCounty.BAD);
        for (int wild : WILD) {
            due.is("plan(" + wild + ", 0)", x.plan(wild, 0), FrameCounty.BAD);
        }
        for (int n = 1; n <= 5; n++) {
            due.is("no rows: none is broken", x.plan(n, -1), 0);
            due.is("plan(" + n + ", -2)", x.plan(n, -2), FrameCounty.NONE);
            due.is("plan(" + n + ", " + n + ")", x.plan(n, n), FrameCounty.NONE);
            due.is("plan(" + n + ", min)", x.plan(n, Integer.MIN_VALUE), FrameCounty.NONE);
            due.is("plan(" + n + ", max)", x.plan(n, Integer.MAX_VALUE), FrameCounty.NONE);
            for (int i = 0; i < n; i++) {
                due.is("no rows: nothing is done", x.plan(n, i), 0);
            }
        }
        x.row(9L);
        due.is("offered: a third", x.plan(1, -1), 3);
        due.is("offers", x.plan(1, 0), 2);
        FrameCounty up = new FrameCounty();
        up.row(10L);
        due.is("a third, rounded up", up.plan(1, -1), 4);
        FrameCounty two = new FrameCounty();
        two.row(3003L);
        due.is("an offer is no good behind an offer", two.plan(2, -1), 2 + 10);
        due.is("week 0", two.plan(2, 0), 1);
        due.is("week 1", two.plan(2, 1), 2);
        due.is("one week of it", two.plan(1, 0), 2);
        FrameCounty odd = new FrameCounty();
        odd.row(505L);
        due.is("half, rounded up, and a third", odd.plan(2, -1), 5);
        due.is("like digits: soldiers first", odd.plan(2, 0), 1);
        due.is("then offers", odd.plan(2, 1), 2);
    }

    private static void promise39LikeOnes() {
        FrameCounty x = new FrameCounty();
        x.row(1L);
        due.is("one raid is one broken, whatever is done", x.plan(1, -1), 1);
        due.is("then nothing is done", x.plan(1, 0), 0);
        FrameCounty y = new FrameCounty();
        y.row(2L);
        due.is("two raids", y.plan(1, -1), 1);
        due.is("offers are not parties", y.plan(1, 0), 2);
        FrameCounty z = new FrameCounty();
        z.row(20002L);
        due.is("weeks 0 and 2", z.plan(3, -1), 2);
        due.is("offer", z.plan(3, 0), 2);
        due.is("nothing", z.plan(3, 1), 0);
        due.is("offer again", z.plan(3, 2), 2);
        FrameCounty w = new FrameCounty();
        w.row(202L);
        due.is("two weeks of two", w.plan(2, -1), 2);
        due.is("one week with parties is needed: 1 2", w.plan(2, 0), 1);
        due.is("offers then", w.plan(2, 1), 2);
    }

    private static void promise39AllPlans() {
        int[][][] tables = {
            {{3, 10, 20, 0, 99}, {30, 1, 2, 3, 4}},
            {{99, 0, 0, 0, 99}, {0, 99, 0, 99, 0}, {33, 33, 33, 33, 33}},
            {{7, 7, 7, 7, 7}},
            {{1, 1, 1, 1, 1}, {2, 2, 2, 2, 2}},
            {{9, 18, 27, 36, 45}, {45, 36, 27, 18, 9}, {0, 0, 99, 0, 0}, {5, 5, 5, 5, 5}, {60, 0, 0, 0, 60}, {1, 2, 3, 4, 5}},
        };
        for (int[][] rows : tables) {
            FrameCounty x = new FrameCounty();
            for (int[] row : rows) {
                long digits = 0;
                for (int w = 4; w >= 0; w--) {
                    digits = digits * 100 + row[w];
                }
                x.row(digits);
            }
            for (int n = 1; n <= 5; n++) {
                int[] best = bestOf(rows, n);
                for (int i = -1; i < n; i++) {
                    due.is("plan(" + n + ", " + i + ")", x.plan(n, i), best[i + 1]);
                }
            }
        }
    }

    /** The number of broken of the best plan, then what it does, by trying all in another order. */
    private static int[] bestOf(int[][] rows, int n) {
        int[] best = null;
        int bestParties = 0;
        for (int code = (int) Math.pow(3, n) - 1; code >= 0; code--) {
            int[] plan = new int[n + 1];
            int parties = 0;
            int rest = code;
            for (int w = n; w > 0; w--) {
                plan[w] = rest % 3;
                parties += plan[w] == 1 ? 1 : 0;
                rest /= 3;
            }
            for (int[] row : rows) {
                int sum = 0;
                for (int w = 1; w <= n; w++) {
                    boolean offered = w > 1 && plan[w - 1] == 2;
                    double part = plan[w] == 0 ? 1 : plan[w] == 1 ? 2 : offered ? 1 : 3;
                    sum += (int) Math.ceil(row[w - 1] / part);
                }
                plan[0] = Math.max(plan[0], sum);
            }
            if (best == null || plan[0] < best[0] || plan[0] == best[0] && parties <= bestParties) {
                best = plan;
                bestParties = parties;
            }
        }
        return best;
    }

    private static void promise40Count() {
        FrameCounty x = new FrameCounty();
        for (int wild : new int[] {Integer.MIN_VALUE, -1, 16, Integer.MAX_VALUE}) {
            due.is("count(" + wild + ")", x.count(wild), FrameCounty.BAD);
        }
        x.pass(17);
        for (int i = 0; i < 2; i++) {
            x.shop(i, 1);
        }
        for (int i = 0; i < 9; i++) {
            x.frame(0, 0, 10, 0);
        }
        for (int i = 0; i < 4; i++) {
            x.raid(i, 0);
        }
        x.mend(0, 0);
        x.mend(8, 2);
        x.mend(7, 2);
        for (int i = 0; i < 5; i++) {
            x.person(i);
        }
        for (int i = 0; i < 6; i++) {
            x.seen(0, 0, 0, 0);
        }
        for (int i = 0; i < 7; i++) {
            x.word(0, 0, 0, 0);
            x.clause(0, 0);
        }
        x.clause(0, 0);
        for (int i = 0; i < 10; i++) {
            x.meeting(0, 1, 0);
        }
        for (int i = 0; i < 3; i++) {
            x.row(0);
            Tape.feed(x, "price 0;hold 0;");
            x.text();
        }
        x.force(2);
        Tape.feed(x, "0123456789012");
        int[] want = {17, 2, 9, 4, 5, 6, 7, 10, 8, 3, 4, 13, 2, 4, 3, 2};
        for (int what = 0; what < 16; what++) {
            due.is("count(" + what + ")", x.count(what), want[what]);
        }
    }
}

/** Promises 30 to 33: meetings, takers, who is sworn, who began. */
public final class OathsTest {
    private static final Due due = new Due("OathsTest");
    private static final int[] WILD = {Integer.MIN_VALUE, -1, Integer.MAX_VALUE};

    public static void main(String[] args) {
        promise30Meeting();
        promise31Taker();
        promise32Sworn();
        promise32Order();
        promise33Began();
        promise33Fewest();
        promise33Least();
        promise33ByThen();
        due.end();
    }

    private static FrameCounty withPersons(int n, int night) {
        FrameCounty x = new FrameCounty();
        for (int i = 0; i < n; i++) {
            x.person(i % 8);
        }
        for (int left = night; left > 0; left -= 60) {
            x.pass(Math.min(60, left));
        }
        return x;
    }

    private static void promise30Meeting() {
        FrameCounty x = withPersons(2, 3);
        due.is("one and itself", x.meeting(1, 1, 0), FrameCounty.BAD);
        due.is("person 2", x.meeting(0, 2, 0), FrameCounty.BAD);
        due.is("person 2 ahead", x.meeting(2, 0, 0), FrameCounty.BAD);
        due.is("in a night to come", x.meeting(0, 1, 4), FrameCounty.BAD);
        for (int wild : WILD) {
            due.is("one " + wild, x.meeting(wild, 0, 0), FrameCounty.BAD);
            due.is("another " + wild, x.meeting(0, wild, 0), FrameCounty.BAD);
            due.is("night " + wild, x.meeting(0, 1, wild), FrameCounty.BAD);
        }
        due.is("no meeting yet", x.count(7), 0);
        for (int i = 0; i < 40; i++) {
            due.is("meeting " + i, x.meeting(i % 2, 1 - i % 2, i % 4), i + 1);
        }
        due.is("one more", x.meeting(0, 1, 0), FrameCounty.FULL);
        due.is("a bad one more", x.meeting(0, 0, 0), FrameCounty.BAD);
        due.is("meetings", x.count(7), 40);
    }

    private static void promise31Taker() {
        FrameCounty x = withPersons(2, 3);
        due.is("taker(0, -1)", x.taker(0, -1), -1);
        due.is("taker(0, 0)", x.taker(0, 0), -1);
        due.is("taker(0, 399)", x.taker(0, 399), 0);
        due.is("taker(0, 400)", x.taker(0, 400), -5);
        due.is("taker(0, -2)", x.taker(0, -2), -5);
        due.is("taker(0, min)", x.taker(0, Integer.MIN_VALUE), -5);
        due.is("taker(0, max)", x.taker(0, Integer.MAX_VALUE), -5);
        due.is("taker(2, 0)", x.taker(2, 0), -5);
        for (int wild : WILD) {
            due.is("taker(" + wild + ", 0)", x.taker(wild, 0), -5);
        }
        due.is("taker(1, 7)", x.taker(1, 7), -1);
        due.is("taker(0, -1) takes it back", x.taker(0, -1), 399);
        due.is("began is of the other one", x.began(), 2);
        due.is("taker(1, -1)", x.taker(1, -1), 7);
        due.is("began of none", x.began(), 0);
    }

    private static void promise32Sworn() {
        FrameCounty none = new FrameCounty();
        due.is("sworn(0, 0) of none", none.sworn(0, 0), 0);
        due.is("sworn(1, 0) of none", none.sworn(1, 0), FrameCounty.BAD);
        FrameCounty x = withPersons(12, 20);
        x.meeting(0, 1, 5);
        x.meeting(1, 2, 7);
        x.meeting(11, 2, 9);
        x.meeting(4, 5, 9);
        due.is("sworn(0, 399)", x.sworn(0, 399), 0);
        due.is("sworn(1, 0)", x.sworn(1, 0), 1);
        due.is("sworn(1, 4)", x.sworn(1, 4), 1);
        due.is("sworn(1, 5)", x.sworn(1, 5), 3);
        due.is("sworn(1, 6)", x.sworn(1, 6), 3);
        due.is("sworn(1, 7)", x.sworn(1, 7), 7);
        due.is("sworn(1, 399)", x.sworn(1, 399), 7 + 2048);
        due.is("sworn(4, 399): not back in time", x.sworn(4, 399), 2 + 4 + 2048);
        due.is("sworn(2048, 399)", x.sworn(2048, 399), 4 + 2048);
        due.is("sworn(32 + 1, 9)", x.sworn(33, 9), 7 + 16 + 32 + 2048);
        due.is("all", x.sworn(4095, 0), 4095);
        due.is("sworn(4096, 0)", x.sworn(4096, 0), FrameCounty.BAD);
        due.is("sworn(0, 400)", x.sworn(0, 400), FrameCounty.BAD);
        for (int wild : WILD) {
            due.is("sworn(" + wild + ", 0)", x.sworn(wild, 0), FrameCounty.BAD);
            due.is("sworn(0, " + wild + ")", x.sworn(0, wild), FrameCounty.BAD);
        }
    }

    // In one night the order in which they were told counts, whenever that was.
    private static void promise32Order() {
        FrameCounty x = withPersons(5, 10);
        x.meeting(2, 3, 6);
        x.meeting(1, 2, 6);
        x.meeting(0, 1, 6);
        due.is("told against the order", x.sworn(1, 6), 3);
        due.is("told in the order", x.sworn(8, 6), 15);
        x.meeting(1, 2, 6);
        due.is("met again", x.sworn(1, 6), 7);
        x.meeting(3, 0, 5);
        due.is("told later, of a night ahead", x.sworn(1, 6), 15);
        due.is("by that night", x.sworn(1, 5), 9);
        x.meeting(4, 0, 7);
        x.meeting(4, 3, 0);
        due.is("both ends", x.sworn(16, 4), 24);
        due.is("both ends later", x.sworn(16, 7), 31);
    }

    private static void promise33Began() {
        FrameCounty x = withPersons(4, 10);
        due.is("no taker", x.began(), 0);
        due.is("no person", new FrameCounty().began(), 0);
        x.taker(2, 10);
        due.is("without meetings: oneself; not the least", x.began(), 4);
        x.meeting(3, 2, 10);
        due.is("oneself is less than 8", x.began(), 4);
        x.meeting(1, 3, 9);
        due.is("another one is less", x.began(), 2);
        x.taker(2, 9);
        due.is("by a night ahead of it", x.began(), 4);
        x.taker(0, 0);
        due.is("two takers", x.began(), 5);
    }

    private static void promise33Fewest() {
        FrameCounty x = withPersons(12, 10);
        for (int i = 0; i < 6; i++) {
            x.taker(i, 5);
            x.meeting(11, i, i);
        }
        due.is("one for all six", x.began(), 1);
        x.meeting(6, 7, 0);
        x.taker(7, 1);
        due.is("another one for the rest", x.began(), 1 + 64);
        x.taker(0, -1);
        x.taker(11, 0);
        due.is("sworn by night 0 at a meeting of it", x.began(), 1 + 64);
        x.taker(9, 3);
        due.is("one whom nobody meets", x.began(), 1 + 64 + 512);
        for (int i = 0; i < 12; i++) {
            x.taker(i, 0);
        }
        due.is("all by night 0", x.began(), 1 + (2 + 4 + 8 + 16 + 32) + 64 + (256 + 512 + 1024));
    }

    private static void promise33Least() {
        FrameCounty x = withPersons(5, 10);
        x.taker(3, 9);
        x.taker(4, 9);
        x.meeting(0, 3, 1);
        x.meeting(1, 4, 1);
        x.meeting(2, 3, 1);
        x.meeting(2, 4, 1);
        // Of one person each: 2 (4) alone; 3 or 4 do so, too, by 2: 3 (8) swears 2, and 2 swears 4.
        due.is("one of those who can", x.began(), 1);
        x.taker(4, 0);
        due.is("two", x.began(), 1 + 16);
        x.taker(3, 0);
        due.is("both takers", x.began(), 8 + 16);
    }

    private static void promise33ByThen() {
        FrameCounty x = withPersons(3, 399);
        x.meeting(0, 1, 398);
        x.meeting(1, 2, 399);
        x.taker(2, 399);
        due.is("in the last night", x.began(), 1);
        x.taker(2, 398);
        due.is("ahead of it", x.began(), 4);
        x.taker(1, 398);
        due.is("both ahead of it", x.began(), 5);
    }
}

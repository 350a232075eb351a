/** Promises 1 to 4: a new object, nights, roads. */
public final class NightsAndRoadsTest {
    private static final Due due = new Due("NightsAndRoadsTest");
    private static final int[] WILD = {Integer.MIN_VALUE, -1, 8, 9, Integer.MAX_VALUE};

    public static void main(String[] args) {
        promise1NewObject();
        promise2Pass();
        promise3Road();
        promise4Far();
        promise4BrightNights();
        promise4FarRoundAbout();
        promise4FarByEachVillage();
        due.end();
    }

    private static void promise1NewObject() {
        FrameCounty x = new FrameCounty();
        for (int what = 0; what < 16; what++) {
            due.is("count(" + what + ") of a new object", x.count(what), what == 10 ? 1 : 0);
        }
        due.is("shop 0 of a new object", x.pays(0, 1), FrameCounty.BAD);
        due.is("frame 0 of a new object", x.frameTold(0, 0), FrameCounty.NO);
        due.is("person 0 of a new object", x.canBe(0, 0, 0, 0), FrameCounty.BAD);
        due.is("suspects of a new object", x.suspects(0, 0), FrameCounty.BAD);
        due.is("held of a new object", x.held(0), 0);
        due.is("held in night 1 of a new object", x.held(1), FrameCounty.BAD);
        FrameCounty other = new FrameCounty();
        other.pass(5);
        due.is("night of an object after another one's pass", x.count(0), 0);
    }

    private static void promise2Pass() {
        FrameCounty x = new FrameCounty();
        due.is("pass(0)", x.pass(0), FrameCounty.BAD);
        due.is("pass(-1)", x.pass(-1), FrameCounty.BAD);
        due.is("pass(61)", x.pass(61), FrameCounty.BAD);
        due.is("pass(max)", x.pass(Integer.MAX_VALUE), FrameCounty.BAD);
        due.is("pass(min)", x.pass(Integer.MIN_VALUE), FrameCounty.BAD);
        due.is("pass(1)", x.pass(1), 1);
        due.is("pass(60)", x.pass(60), 61);
        for (int i = 0; i < 5; i++) {
            x.pass(60);
        }
        due.is("night", x.count(0), 361);
        due.is("pass(39)", x.pass(39), FrameCounty.FULL);
        due.is("pass(61) near the end", x.pass(61), FrameCounty.BAD);
        due.is("night as it was", x.count(0), 361);
        due.is("pass(38)", x.pass(38), 399);
        due.is("pass(1) behind the last", x.pass(1), FrameCounty.FULL);
        due.is("last night", x.count(0), 399);
    }

    private static void promise3Road() {
        FrameCounty x = new FrameCounty();
        due.is("road(0, 1, 1)", x.road(0, 1, 1), 99);
        due.is("road(1, 0, 9)", x.road(1, 0, 9), 1);
        due.is("road(0, 1, 9)", x.road(0, 1, 9), 9);
        due.is("road(7, 0, 4)", x.road(7, 0, 4), 99);
        due.is("road(0, 1, 99) takes it away", x.road(0, 1, 99), 9);
        due.is("far where no road is any more", x.far(0, 1, 10), 99);
        due.is("road(0, 1, 5) again", x.road(0, 1, 5), 99);
        for (int hours : new int[] {0, 10, -1, 98, 100, Integer.MAX_VALUE, Integer.MIN_VALUE}) {
            due.is("road(0, 1, " + hours + ")", x.road(0, 1, hours), FrameCounty.BAD);
        }
        for (int wild : WILD) {
            due.is("road(" + wild + ", 1, 3)", x.road(wild, 1, 3), FrameCounty.BAD);
            due.is("road(1, " + wild + ", 3)", x.road(1, wild, 3), FrameCounty.BAD);
        }
        due.is("road(2, 2, 3)", x.road(2, 2, 3), FrameCounty.BAD);
        due.is("far of one and itself", x.far(2, 2, 10), 0);
        due.is("road as it was", x.far(0, 1, 10), 5);
    }

    private static void promise4Far() {
        FrameCounty x = new FrameCounty();
        x.road(0, 1, 2);
        x.road(1, 2, 3);
        due.is("far(0, 2, 10)", x.far(0, 2, 10), 5);
        due.is("far(2, 0, 10)", x.far(2, 0, 10), 5);
        due.is("far(0, 2, 0)", x.far(0, 2, 0), 7);
        due.is("far(0, 3, 0)", x.far(0, 3, 0), 99);
        due.is("far(3, 3, 0)", x.far(3, 3, 0), 0);
        due.is("far(7, 6, 399)", x.far(7, 6, 399), 99);
        due.is("far in a dark night to come", x.far(0, 1, 390), 3);
        due.is("far in the last night", x.far(0, 1, 399), 2);
        due.is("far(0, 1, 400)", x.far(0, 1, 400), FrameCounty.BAD);
        due.is("far(0, 1, -1)", x.far(0, 1, -1), FrameCounty.BAD);
        for (int wild : WILD) {
            due.is("far(" + wild + ", 1, 3)", x.far(wild, 1, 3), FrameCounty.BAD);
            due.is("far(1, " + wild + ", 3)", x.far(1, wild, 3), FrameCounty.BAD);
        }
        due.is("far(8, 8, 0)", x.far(8, 8, 0), FrameCounty.BAD);
    }

    private static void promise4BrightNights() {
        FrameCounty x = new FrameCounty();
        x.road(4, 5, 6);
        for (int night = 0; night < 400; night++) {
            int moon = night % 30;
            due.is("far(4, 5, " + night + ")", x.far(4, 5, night), moon < 8 || moon > 22 ? 7 : 6);
        }
    }

    // In a dark night fewer roads may be less far, though they are longer in a bright one.
    private static void promise4FarRoundAbout() {
        FrameCounty x = new FrameCounty();
        x.road(0, 1, 1);
        x.road(1, 2, 1);
        x.road(2, 3, 1);
        x.road(0, 3, 4);
        due.is("bright: three roads", x.far(0, 3, 10), 3);
        due.is("dark: one road", x.far(0, 3, 5), 5);
        x.road(0, 3, 9);
        due.is("dark: three roads", x.far(0, 3, 5), 6);
        FrameCounty chain = new FrameCounty();
        for (int v = 0; v < 7; v++) {
            chain.road(v, v + 1, 9);
        }
        due.is("the farthest in a bright night", chain.far(7, 0, 22), 63);
        due.is("the farthest in a dark night", chain.far(7, 0, 23), 70);
    }

    private static void promise4FarByEachVillage() {
        for (int by = 0; by < 8; by++) {
            FrameCounty x = new FrameCounty();
            for (int v = 0; v < 8; v++) {
                x.road(by, v, 1 + v);
            }
            for (int a = 0; a < 8; a++) {
                for (int b = 0; b < 8; b++) {
                    int want = a == b ? 0 : (a == by ? 0 : 1 + a) + (b == by ? 0 : 1 + b);
                    due.is("far(" + a + ", " + b + ") by " + by, x.far(a, b, 8), want);
                }
            }
        }
    }
}

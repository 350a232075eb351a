/** Promises 5 to 11: shops and frames. */
public final class ShopsAndFramesTest {
    private static final Due due = new Due("ShopsAndFramesTest");
    private static final int[] WILD = {Integer.MIN_VALUE, -1, 100, Integer.MAX_VALUE};
    private static final int FRAME = 0, WIDE = 1, NARROW = 2, CUT = 3, LACE = 4, POWER = 5;

    public static void main(String[] args) {
        promise5Shop();
        promise6Pays();
        promise7Frame();
        promise8FrameTold();
        promise8Kinds();
        promise9Mend();
        promise10Keeps();
        promise10KeepsByAnotherText();
        promise11Earns();
        due.end();
    }

    private static void promise5Shop() {
        FrameCounty x = new FrameCounty();
        for (int wild : WILD) {
            due.is("shop(" + wild + ", 1)", x.shop(wild, 1), FrameCounty.BAD);
            due.is("shop(1, " + wild + ")", x.shop(1, wild), FrameCounty.BAD);
        }
        due.is("shop(8, 1)", x.shop(8, 1), FrameCounty.BAD);
        due.is("no shop yet", x.count(1), 0);
        for (int i = 0; i < 8; i++) {
            due.is("shop " + i, x.shop(7 - i, i == 0 ? 0 : 99), i);
        }
        due.is("shop(0, 1) of eight", x.shop(0, 1), FrameCounty.FULL);
        due.is("shop(8, 1) of eight", x.shop(8, 1), FrameCounty.BAD);
        due.is("shops", x.count(1), 8);
        due.is("two shops in one village", new FrameCounty().shop(0, 0), 0);
    }

    private static void promise6Pays() {
        FrameCounty x = new FrameCounty();
        x.shop(0, 10);
        x.shop(0, 20);
        due.is("pays(1, 0)", x.pays(1, 0), 20);
        due.is("pays(1, 99)", x.pays(1, 99), 0);
        due.is("pays(0, 5)", x.pays(0, 5), 10);
        for (int wild : WILD) {
            due.is("pays(" + wild + ", 1)", x.pays(wild, 1), FrameCounty.BAD);
            due.is("pays(1, " + wild + ")", x.pays(1, wild), FrameCounty.BAD);
        }
        due.is("pays(2, 1)", x.pays(2, 1), FrameCounty.BAD);
        due.is("pays as told", x.pays(1, 1), 99);
        due.is("pays of the other", x.pays(0, 1), 5);
    }

    private static void promise7Frame() {
        FrameCounty x = new FrameCounty();
        due.is("frame without a shop", x.frame(0, 0, 20, 1), FrameCounty.BAD);
        x.shop(0, 10);
        due.is("frame(-1, ..)", x.frame(-1, 0, 20, 1), FrameCounty.BAD);
        due.is("frame(6, ..)", x.frame(6, 0, 20, 1), FrameCounty.BAD);
        due.is("shop -1", x.frame(0, -1, 20, 1), FrameCounty.BAD);
        due.is("shop 1", x.frame(0, 1, 20, 1), FrameCounty.BAD);
        due.is("width 9", x.frame(0, 0, 9, 1), FrameCounty.BAD);
        due.is("width 61", x.frame(0, 0, 61, 1), FrameCounty.BAD);
        for (int wild : WILD) {
            due.is("rent " + wild, x.frame(0, 0, 20, wild), FrameCounty.BAD);
            due.is("width " + wild, x.frame(0, 0, wild, 1), FrameCounty.BAD);
            due.is("kind " + wild, x.frame(wild, 0, 20, 1), FrameCounty.BAD);
            due.is("shop " + wild, x.frame(0, wild, 20, 1), FrameCounty.BAD);
        }
        due.is("no frame yet", x.count(2), 0);
        for (int i = 0; i < 20; i++) {
            due.is("frame " + i, x.frame(i % 6, 0, i == 0 ? 10 : 60, i == 0 ? 0 : 99), i);
        }
        due.is("one frame more", x.frame(0, 0, 20, 1), FrameCounty.FULL);
        due.is("a bad frame more", x.frame(6, 0, 20, 1), FrameCounty.BAD);
        due.is("frames", x.count(2), 20);
        due.is("frames are whole at first", x.count(13), 20);
    }

    private static void promise8FrameTold() {
        FrameCounty x = new FrameCounty();
        x.shop(3, 10);
        x.shop(4, 7);
        x.frame(LACE, 1, 39, 9);
        long[] want = {LACE, 1, 39, 9, 0, 1, 4, 3};
        for (int what = 0; what < 8; what++) {
            due.is("frameTold(0, " + what + ")", x.frameTold(0, what), want[what]);
        }
        x.raid(0, 0);
        due.is("broken", x.frameTold(0, 4), 1);
        due.is("makes, though broken", x.frameTold(0, 5), 1);
        due.is("earns, when broken", x.frameTold(0, 7), -4);
        x.mend(0, 0);
        x.mend(0, 2);
        due.is("hidden", x.frameTold(0, 4), 2);
        due.is("earns, when hidden", x.frameTold(0, 7), -4);
        for (int wild : new int[] {Integer.MIN_VALUE, -1, 1, 20, Integer.MAX_VALUE}) {
            due.is("frameTold(" + wild + ", 0)", x.frameTold(wild, 0), FrameCounty.NO);
        }
        for (int wild : new int[] {Integer.MIN_VALUE, -1, 8, Integer.MAX_VALUE}) {
            due.is("frameTold(0, " + wild + ")", x.frameTold(0, wild), FrameCounty.NO);
        }
    }

    private static void promise8Kinds() {
        FrameCounty x = new FrameCounty();
        x.shop(0, 99);
        for (int width : new int[] {10, 19, 27, 60}) {
            for (int rent : new int[] {0, 7, 99}) {
                if (x.count(2) > 14) {
                    x = new FrameCounty();
                    x.shop(0, 99);
                }
                kindsOf(x, width, rent);
            }
        }
    }

    private static void kindsOf(FrameCounty x, int width, int rent) {
        int plain = width / 10;
        int[] makes = {plain, plain + 3, plain - 1, 2 * (plain + 3), (plain - 1) / 2, 4 * plain};
        int[] rents = {rent, rent, rent / 2, rent + 2, rent / 2, rent + width};
        for (int kind = FRAME; kind <= POWER; kind++) {
            int f = x.frame(kind, 0, width, rent);
            String of = " of kind " + kind + ", width " + width + ", rent " + rent;
            due.is("makes" + of, x.frameTold(f, 5), makes[kind]);
            due.is("rent paid" + of, x.frameTold(f, 6), rents[kind]);
            due.is("earns" + of, x.frameTold(f, 7), 99 * makes[kind] - rents[kind]);
            due.is("rent" + of, x.frameTold(f, 3), rent);
        }
    }

    private static void promise9Mend() {
        FrameCounty x = new FrameCounty();
        x.shop(0, 10);
        x.frame(CUT, 0, 20, 1);
        x.frame(WIDE, 0, 20, 1);
        int[][] from = {{0, 2}, {1, 0}, {2, 1}};
        due.is("mend whole 0", x.mend(0, 0), FrameCounty.STATE);
        due.is("mend whole 1", x.mend(0, 1), FrameCounty.STATE);
        due.is("mend whole 2", x.mend(0, 2), 1);
        due.is("is hidden", x.frameTold(0, 4), from[2][0]);
        due.is("mend hidden 0", x.mend(0, 0), FrameCounty.STATE);
        due.is("mend hidden 2", x.mend(0, 2), FrameCounty.STATE);
        due.is("still hidden", x.frameTold(0, 4), 2);
        due.is("mend hidden 1", x.mend(0, 1), 1);
        due.is("is whole", x.frameTold(0, 4), 0);
        x.raid(0, 1);
        due.is("mend broken 1", x.mend(0, 1), FrameCounty.STATE);
        due.is("mend broken 2", x.mend(0, 2), FrameCounty.STATE);
        due.is("still broken", x.frameTold(0, 4), 1);
        due.is("mend broken 0", x.mend(0, 0), 1);
        due.is("is whole again", x.frameTold(0, 4), 0);
        for (int wild : new int[] {Integer.MIN_VALUE, -1, 3, Integer.MAX_VALUE}) {
            due.is("mend(0, " + wild + ")", x.mend(0, wild), FrameCounty.BAD);
        }
        for (int wild : new int[] {Integer.MIN_VALUE, -1, 2, Integer.MAX_VALUE}) {
            due.is("mend(" + wild + ", 2)", x.mend(wild, 2), FrameCounty.BAD);
        }
        due.is("the other one as it was", x.frameTold(1, 4), 0);
    }

    private static void promise10Keeps() {
        FrameCounty x = new FrameCounty();
        due.is("keeps(0) of none", x.keeps(0), FrameCounty.BAD);
        x.shop(0, 0);
        x.shop(1, 30);
        due.is("a shop without frames", x.keeps(0), 1);
        x.frame(FRAME, 1, 20, 1);
        due.is("pays just what the list says", x.keeps(1), 1);
        x.pays(1, 29);
        due.is("pays one less", x.keeps(1), 0);
        due.is("another one's frame", x.keeps(0), 1);
        x.mend(0, 2);
        due.is("a hidden frame does not count", x.keeps(1), 1);
        x.mend(0, 1);
        due.is("brought back it does", x.keeps(1), 0);
        x.raid(0, 1);
        due.is("a broken frame does not count", x.keeps(1), 1);
        x.frame(FRAME, 1, 19, 1);
        x.frame(FRAME, 1, 20, 1);
        due.is("one of two below", x.keeps(1), 0);
        for (int wild : new int[] {Integer.MIN_VALUE, -1, 2, Integer.MAX_VALUE}) {
            due.is("keeps(" + wild + ")", x.keeps(wild), FrameCounty.BAD);
        }
    }

    private static void promise10KeepsByAnotherText() {
        FrameCounty x = new FrameCounty();
        x.shop(0, 6);
        x.frame(CUT, 0, 20, 1);
        Tape.feed(x, "price kind + rent; hold 0;");
        due.is("text", x.text(), 1);
        due.is("keeps by the first list", x.keeps(0), 0);
        x.force(1);
        due.is("keeps by the new one", x.keeps(0), 1);
        x.pays(0, 5);
        due.is("keeps no more", x.keeps(0), 0);
    }

    private static void promise11Earns() {
        FrameCounty x = new FrameCounty();
        due.is("earns(0) of none", x.earns(0), FrameCounty.NO);
        x.shop(0, 10);
        x.shop(0, 3);
        due.is("a shop without frames", x.earns(0), 0);
        x.frame(FRAME, 0, 30, 5);
        x.frame(NARROW, 0, 40, 9);
        x.frame(POWER, 1, 10, 99);
        due.is("earns(0)", x.earns(0), 10 * 3 - 5 + 10 * 3 - 4);
        due.is("earns(1)", x.earns(1), 3 * 4 - 109);
        x.raid(1, 2);
        due.is("earns(0), one broken", x.earns(0), 10 * 3 - 5 - 4);
        x.mend(0, 2);
        due.is("earns(0), one hidden", x.earns(0), -5 - 4);
        x.pays(1, 99);
        due.is("earns(1), better paid", x.earns(1), 99 * 4 - 109);
        for (int wild : new int[] {Integer.MIN_VALUE, -1, 2, Integer.MAX_VALUE}) {
            due.is("earns(" + wild + ")", x.earns(wild), FrameCounty.NO);
        }
    }
}

import java.util.ArrayList;
import java.util.List;

/** Promises 16 to 20: raids and the forms that part the struck from the spared. */
public final class RaidsTest {
    private static final Due due = new Due("RaidsTest");
    private static final int[] WILD = {Integer.MIN_VALUE, -1, Integer.MAX_VALUE};

    public static void main(String[] args) {
        promise16Raid();
        promise16Full();
        promise17Pattern();
        promise18Left();
        promise19Form();
        promise19AllForms();
        promise20Sends();
        promise20Fields();
        due.end();
    }

    private static void promise16Raid() {
        FrameCounty x = new FrameCounty();
        due.is("raid of no frame", x.raid(0, 0), FrameCounty.BAD);
        x.shop(0, 10);
        x.frame(0, 0, 20, 1);
        x.frame(0, 0, 20, 1);
        due.is("raid(2, 0)", x.raid(2, 0), FrameCounty.BAD);
        due.is("raid(0, 12)", x.raid(0, 12), FrameCounty.BAD);
        for (int wild : WILD) {
            due.is("raid(" + wild + ", 0)", x.raid(wild, 0), FrameCounty.BAD);
            due.is("raid(0, " + wild + ")", x.raid(0, wild), FrameCounty.BAD);
        }
        due.is("no raid yet", x.count(3), 0);
        due.is("raid(0, 0)", x.raid(0, 0), 0);
        due.is("it is broken", x.frameTold(0, 4), 1);
        due.is("raid(0, 1), when broken", x.raid(0, 1), FrameCounty.STATE);
        due.is("raid(0, 12), when broken", x.raid(0, 12), FrameCounty.BAD);
        x.mend(1, 2);
        due.is("raid(1, 1), when hidden", x.raid(1, 1), FrameCounty.STATE);
        due.is("one raid", x.count(3), 1);
        x.mend(1, 1);
        due.is("raid(1, 11), brought back", x.raid(1, 11), 1);
        x.mend(0, 0);
        due.is("raid(0, 5), mended", x.raid(0, 5), 2);
    }

    private static void promise16Full() {
        FrameCounty x = new FrameCounty();
        x.shop(0, 10);
        x.frame(0, 0, 20, 1);
        for (int i = 0; i < 30; i++) {
            due.is("raid " + i, x.raid(0, i % 12), i);
            if (i == 29) {
                due.is("one raid more of a broken one", x.raid(0, 0), FrameCounty.STATE);
            }
            x.mend(0, 0);
        }
        due.is("one raid more", x.raid(0, 0), FrameCounty.FULL);
        due.is("a bad raid more", x.raid(1, 0), FrameCounty.BAD);
        due.is("it is whole", x.frameTold(0, 4), 0);
        due.is("raids", x.count(3), 30);
    }

    private static void promise17Pattern() {
        FrameCounty x = new FrameCounty();
        due.is("pattern(0) of none", x.pattern(0), 0);
        due.is("pattern(1) of none", x.pattern(1), 0);
        for (int wild : new int[] {Integer.MIN_VALUE, -1, 2, Integer.MAX_VALUE}) {
            due.is("pattern(" + wild + ")", x.pattern(wild), FrameCounty.BAD);
        }
        x.shop(0, 10);
        x.shop(1, 10);
        for (int i = 0; i < 6; i++) {
            x.frame(0, i % 2, 20, 1);
        }
        x.raid(0, 0);
        due.is("struck", x.pattern(0), 1);
        due.is("spared", x.pattern(1), 4 + 16);
        x.mend(4, 2);
        due.is("a hidden one isn't spared", x.pattern(1), 4);
        x.raid(5, 0);
        due.is("struck in both", x.pattern(0), 1 + 32);
        due.is("spared in both", x.pattern(1), 2 + 4 + 8);
        x.mend(0, 0);
        due.is("a mended one isn't struck", x.pattern(0), 32);
        due.is("nor its shop", x.pattern(1), 2 + 8);
        x.raid(0, 3);
        due.is("struck twice", x.pattern(0), 1 + 32);
        x.pass(1);
        due.is("struck in the night behind it", x.pattern(0), 0);
        due.is("spared in the night behind it", x.pattern(1), 0);
        x.raid(2, 3);
        due.is("struck now", x.pattern(0), 4);
        due.is("one broken earlier is neither", x.pattern(1), 0);
        x.mend(0, 0);
        due.is("mended it is spared", x.pattern(1), 1);
        x.raid(0, 0);
        due.is("struck again", x.pattern(0), 1 + 4);
        FrameCounty full = new FrameCounty();
        full.shop(0, 0);
        for (int i = 0; i < 20; i++) {
            full.frame(0, 0, 10, 0);
        }
        full.raid(19, 0);
        due.is("the last frame", full.pattern(0), 1 << 19);
        due.is("all others", full.pattern(1), (1 << 19) - 1);
    }

    private static void promise18Left() {
        FrameCounty x = new FrameCounty();
        due.is("left of none", x.left(), 0);
        x.shop(7, 50);
        x.frame(2, 0, 30, 40);
        due.is("nothing struck", x.left(), 0);
        x.raid(0, 0);
        // <: 31..99, = , > 0..29; RENT 40; KIND 2; PAYS 50; village 7.
        due.is("one alone: all that it fits", x.left(), 69 + 1 + 30 + 59 + 1 + 40 + 97 + 1 + 2 + 49 + 1 + 50 + 92 + 1 + 7);
        x.frame(2, 0, 30, 40);
        due.is("one spared that is like it", x.left(), 0);
        x.mend(1, 2);
        due.is("hidden it doesn't count", x.left(), 500);
        x.frame(2, 0, 30, 39);
        due.is("one spared that has one less rent", x.left(), 1 + 1);
        x.pass(1);
        due.is("a night on", x.left(), 0);
    }

    private static void promise19Form() {
        FrameCounty x = new FrameCounty();
        due.is("form(0) of none", x.form(0), FrameCounty.NONE);
        x.shop(7, 50);
        x.frame(2, 0, 30, 40);
        x.frame(2, 0, 30, 39);
        due.is("form(0), nothing struck", x.form(0), FrameCounty.NONE);
        x.raid(0, 0);
        due.is("form(0): rent = 40", x.form(0), 440);
        due.is("form(1): rent > 39", x.form(1), 539);
        due.is("form(2)", x.form(2), FrameCounty.NONE);
        due.is("form(-1)", x.form(-1), FrameCounty.NONE);
        due.is("form(min)", x.form(Integer.MIN_VALUE), FrameCounty.NONE);
        due.is("form(max)", x.form(Integer.MAX_VALUE), FrameCounty.NONE);
    }

    private static void promise19AllForms() {
        FrameCounty x = new FrameCounty();
        x.shop(7, 50);
        x.shop(1, 2);
        int[][] frames = {{2, 0, 30, 40}, {0, 0, 44, 10}, {5, 1, 10, 99}, {4, 0, 60, 0}, {1, 1, 30, 40}, {3, 1, 12, 8}};
        for (int[] f : frames) {
            x.frame(f[0], f[1], f[2], f[3]);
        }
        List<int[]> struck = new ArrayList<>();
        List<int[]> spared = new ArrayList<>();
        x.raid(0, 0);
        x.raid(4, 0);
        for (int i = 0; i < frames.length; i++) {
            int[] f = frames[i];
            int[] fields = {f[2], f[3], f[0], f[1] == 0 ? 50 : 2, f[1] == 0 ? 7 : 1};
            (i == 0 || i == 4 ? struck : spared).add(fields);
        }
        int found = 0;
        for (int form = 0; form < 1500; form++) {
            if (isLeft(form, struck, spared)) {
                due.is("form(" + found + ")", x.form(found), form);
                found++;
            }
        }
        due.holds("some are left", found > 1);
        due.is("left()", x.left(), found);
        due.is("form(" + found + ")", x.form(found), FrameCounty.NONE);
    }

    private static boolean isLeft(int form, List<int[]> struck, List<int[]> spared) {
        for (int[] f : struck) {
            if (!fits(form, f)) {
                return false;
            }
        }
        for (int[] f : spared) {
            if (fits(form, f)) {
                return false;
            }
        }
        return true;
    }

    private static boolean fits(int form, int[] fields) {
        int sign = Integer.compare(fields[form / 300], form % 100) + 1;
        return sign == form / 100 % 3;
    }

    private static void promise20Sends() {
        FrameCounty x = new FrameCounty();
        for (int wild : new int[] {Integer.MIN_VALUE, -1, 1500, Integer.MAX_VALUE}) {
            due.is("sends(" + wild + ")", x.sends(wild), FrameCounty.BAD);
        }
        due.is("sends(0) of none", x.sends(0), FrameCounty.NONE);
        due.is("sends(1499) of none", x.sends(1499), FrameCounty.NONE);
        x.shop(0, 10);
        x.shop(1, 20);
        x.shop(2, 30);
        due.is("shops without frames", x.sends(99), FrameCounty.NONE);
        int[] shops = {0, 0, 0, 1, 1, 2, 2};
        for (int s : shops) {
            x.frame(0, s, 30, 5);
        }
        due.is("the most, though nothing is struck", x.sends(31), 0);
        due.is("none fits", x.sends(30), FrameCounty.NONE);
        x.raid(0, 0);
        due.is("of like ones the least", x.sends(31), 1);
        x.frame(0, 2, 40, 5);
        due.is("one that doesn't fit", x.sends(31), 1);
        due.is("one that fits", x.sends(41), 2);
        x.mend(7, 2);
        due.is("hidden it doesn't count", x.sends(41), 1);
        x.mend(3, 2);
        due.is("nor another one", x.sends(41), 2);
        x.raid(5, 0);
        due.is("a shop with a struck one", x.sends(41), 1);
        x.raid(4, 0);
        due.is("all are struck", x.sends(41), FrameCounty.NONE);
        x.pass(1);
        due.is("broken ones don't count", x.sends(31), 0);
        x.raid(1, 0);
        due.is("a night on", x.sends(31), 2);
    }

    // A form needs not be left to send.
    private static void promise20Fields() {
        FrameCounty x = new FrameCounty();
        x.shop(3, 10);
        x.shop(5, 20);
        x.frame(4, 0, 30, 5);
        x.frame(1, 1, 31, 6);
        int[][] only = {{31, 0}, {131, 1}, {230, 1}, {306, 0}, {406, 1}, {505, 1}, {604, 1}, {704, 0}, {801, 0},
            {911, 0}, {1020, 1}, {1110, 1}, {1205, 0}, {1303, 0}, {1403, 1}};
        for (int[] o : only) {
            due.is("sends(" + o[0] + ")", x.sends(o[0]), o[1]);
        }
        FrameCounty y = new FrameCounty();
        y.shop(0, 1);
        y.frame(0, 0, 60, 0);
        int[] fitting = {61, 160, 259, 301, 400, 601, 700, 902, 903, 999, 1001, 1100, 1201, 1299, 1300};
        for (int form = 0; form < 1500; form++) {
            if (form / 100 % 3 == 0 && form % 100 > 90 || java.util.Arrays.binarySearch(fitting, form) >= 0) {
                due.is("sends(" + form + ") of one plain frame", y.sends(form), 0);
            }
        }
        for (int form : new int[] {0, 60, 161, 260, 300, 401, 500, 600, 701, 800, 901, 1000, 1002, 1101, 1200, 1301, 1400}) {
            due.is("sends(" + form + ") of one plain frame", y.sends(form), FrameCounty.NONE);
        }
        x.pays(0, 99);
        due.is("PAYS > 98", x.sends(1198), 0);
        due.is("PAYS = 99", x.sends(1099), 0);
        due.is("PAYS > 99", x.sends(1199), FrameCounty.NONE);
        due.is("village > 99", x.sends(1499), FrameCounty.NONE);
    }
}

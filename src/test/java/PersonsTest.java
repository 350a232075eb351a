/** Promises 21 to 29: persons, where they were seen, and informers' words. */
public final class PersonsTest {
    private static final Due due = new Due("PersonsTest");
    private static final int[] WILD = {Integer.MIN_VALUE, -1, Integer.MAX_VALUE};

    public static void main(String[] args) {
        promise21Person();
        promise22Seen();
        promise23CanBe();
        promise23Seen();
        promise23Known();
        promise24Suspects();
        promise25Word();
        promise26FalseWords();
        promise27Paid();
        promise28Held();
        promise28HeldByAnotherText();
        promise29Hangs();
        promise29HeldOnlyWithoutTheWords();
        due.end();
    }

    private static void promise21Person() {
        FrameCounty x = new FrameCounty();
        due.is("person(8)", x.person(8), FrameCounty.BAD);
        for (int wild : WILD) {
            due.is("person(" + wild + ")", x.person(wild), FrameCounty.BAD);
        }
        due.is("no person yet", x.count(4), 0);
        for (int i = 0; i < 12; i++) {
            due.is("person " + i, x.person(i % 8), i);
        }
        due.is("one more", x.person(0), FrameCounty.FULL);
        due.is("a bad one more", x.person(8), FrameCounty.BAD);
        due.is("persons", x.count(4), 12);
    }

    private static void promise22Seen() {
        FrameCounty x = new FrameCounty();
        due.is("seen of no person", x.seen(0, 0, 0, 0), FrameCounty.BAD);
        x.person(0);
        x.pass(3);
        due.is("seen(1, 0, 0, 0)", x.seen(1, 0, 0, 0), FrameCounty.BAD);
        due.is("seen(0, 8, 0, 0)", x.seen(0, 8, 0, 0), FrameCounty.BAD);
        due.is("seen in a night to come", x.seen(0, 0, 4, 0), FrameCounty.BAD);
        due.is("seen(0, 0, 0, 12)", x.seen(0, 0, 0, 12), FrameCounty.BAD);
        for (int wild : WILD) {
            due.is("person " + wild, x.seen(wild, 0, 0, 0), FrameCounty.BAD);
            due.is("village " + wild, x.seen(0, wild, 0, 0), FrameCounty.BAD);
            due.is("night " + wild, x.seen(0, 0, wild, 0), FrameCounty.BAD);
            due.is("hour " + wild, x.seen(0, 0, 0, wild), FrameCounty.BAD);
        }
        due.is("not seen yet", x.count(5), 0);
        for (int i = 0; i < 40; i++) {
            due.is("seen " + i, x.seen(0, i % 8, i % 4, i % 12), i + 1);
        }
        due.is("one more", x.seen(0, 0, 0, 0), FrameCounty.FULL);
        due.is("a bad one more", x.seen(1, 0, 0, 0), FrameCounty.BAD);
        due.is("seen", x.count(5), 40);
    }

    private static void promise23CanBe() {
        FrameCounty x = new FrameCounty();
        due.is("canBe of no person", x.canBe(0, 0, 0, 0), FrameCounty.BAD);
        x.person(0);
        x.road(0, 1, 4);
        x.road(1, 2, 8);
        due.is("at home in hour 0", x.canBe(0, 0, 0, 0), 1);
        due.is("dark: hour 4", x.canBe(0, 1, 4, 0), 0);
        due.is("dark: hour 5", x.canBe(0, 1, 5, 0), 1);
        due.is("bright: hour 3", x.canBe(0, 1, 1003, 0), 0);
        due.is("bright: hour 4", x.canBe(0, 1, 1004, 0), 1);
        due.is("the last hour", x.canBe(0, 1, 11, 0), 1);
        due.is("twelve hours far", x.canBe(0, 2, 1011, 0), 0);
        due.is("no road", x.canBe(0, 3, 1011, 0), 0);
        due.is("the last night", x.canBe(0, 1, 39905, 0), 1);
        due.is("the last hour of it", x.canBe(0, 1, 39911, 0), 1);
        due.is("hour 12", x.canBe(0, 0, 12, 0), FrameCounty.BAD);
        due.is("hour 99", x.canBe(0, 0, 99, 0), FrameCounty.BAD);
        due.is("night 400", x.canBe(0, 0, 40000, 0), FrameCounty.BAD);
        due.is("hour 12 of the last night", x.canBe(0, 0, 39912, 0), FrameCounty.BAD);
        due.is("known to come", x.canBe(0, 0, 0, 1), FrameCounty.BAD);
        due.is("village 8", x.canBe(0, 8, 0, 0), FrameCounty.BAD);
        due.is("person 1", x.canBe(1, 0, 0, 0), FrameCounty.BAD);
        for (int wild : WILD) {
            due.is("person " + wild, x.canBe(wild, 0, 0, 0), FrameCounty.BAD);
            due.is("village " + wild, x.canBe(0, wild, 0, 0), FrameCounty.BAD);
            due.is("when " + wild, x.canBe(0, 0, wild, 0), FrameCounty.BAD);
            due.is("known " + wild, x.canBe(0, 0, 0, wild), FrameCounty.BAD);
        }
        due.is("when -100", x.canBe(0, 0, -100, 0), FrameCounty.BAD);
    }

    private static void promise23Seen() {
        FrameCounty x = new FrameCounty();
        x.person(0);
        x.person(0);
        x.road(0, 1, 3);
        x.pass(10);
        x.seen(0, 1, 10, 6);
        int[] at0 = {1, 1, 1, 1, 0, 0, 0, 0, 0, 1, 1, 1};
        int[] at1 = {0, 0, 0, 1, 1, 1, 1, 1, 1, 1, 1, 1};
        for (int hour = 0; hour < 12; hour++) {
            due.is("at home in hour " + hour, x.canBe(0, 0, 1000 + hour, 10), at0[hour]);
            due.is("where seen in hour " + hour, x.canBe(0, 1, 1000 + hour, 10), at1[hour]);
            due.is("another person in hour " + hour, x.canBe(1, 0, 1000 + hour, 10), 1);
            due.is("another night in hour " + hour, x.canBe(0, 0, 900 + hour, 10), 1);
        }
        x.seen(0, 0, 10, 10);
        due.is("between two", x.canBe(0, 1, 1007, 10), 1);
        due.is("between two, too late", x.canBe(0, 1, 1008, 10), 0);
        // Seen where one can't be at all, one can't be there either: roads alone tell.
        x.seen(0, 3, 10, 10);
        due.is("seen far from all", x.canBe(0, 0, 1000, 10), 0);
        due.is("not even there", x.canBe(0, 3, 1010, 10), 0);
    }

    private static void promise23Known() {
        FrameCounty x = new FrameCounty();
        x.person(0);
        x.road(0, 1, 3);
        x.pass(10);
        x.seen(0, 1, 10, 6);
        x.pass(2);
        x.seen(0, 1, 8, 6);
        due.is("known in its night", x.canBe(0, 0, 1006, 10), 0);
        due.is("not known ahead of it", x.canBe(0, 0, 1006, 9), 1);
        due.is("told later", x.canBe(0, 0, 806, 11), 1);
        due.is("known when told", x.canBe(0, 0, 806, 12), 0);
        due.is("known to come", x.canBe(0, 0, 806, 13), FrameCounty.BAD);
    }

    /** A county with shops in villages 0 and 2, a raid in each of hours 2 and 4, and persons at homes 0 to 3. */
    private static FrameCounty county() {
        FrameCounty x = new FrameCounty();
        x.pass(10);
        x.road(0, 1, 2);
        x.road(1, 2, 2);
        x.road(2, 3, 2);
        x.shop(0, 10);
        x.shop(2, 10);
        x.frame(0, 0, 20, 1);
        x.frame(0, 1, 20, 1);
        x.raid(0, 2);
        x.raid(1, 4);
        for (int home = 0; home < 4; home++) {
            x.person(home);
        }
        return x;
    }

    private static void promise24Suspects() {
        FrameCounty x = county();
        due.is("suspects(0, 10)", x.suspects(0, 10), 1 + 2);
        due.is("suspects(1, 10)", x.suspects(1, 10), 15);
        x.pass(1);
        x.seen(0, 0, 10, 1);
        x.seen(3, 2, 10, 3);
        due.is("suspects(1, 11)", x.suspects(1, 11), 2 + 4 + 8);
        due.is("suspects(1, 10) as known then", x.suspects(1, 10), 15);
        due.is("suspects(0, 0)", x.suspects(0, 0), 1 + 2);
        for (int wild : new int[] {Integer.MIN_VALUE, -1, 2, Integer.MAX_VALUE}) {
            due.is("suspects(" + wild + ", 0)", x.suspects(wild, 0), FrameCounty.BAD);
        }
        for (int wild : new int[] {Integer.MIN_VALUE, -1, 12, Integer.MAX_VALUE}) {
            due.is("suspects(0, " + wild + ")", x.suspects(0, wild), FrameCounty.BAD);
        }
        x.pass(20);
        due.is("the night is the raid's", x.suspects(1, 10), 15);
        x.road(0, 1, 99);
        due.is("without a road", x.suspects(1, 10), 2 + 4 + 8);
    }

    private static void promise25Word() {
        FrameCounty x = county();
        due.is("informer 6", x.word(6, 0, 0, 0), FrameCounty.BAD);
        due.is("person 4", x.word(0, 4, 0, 0), FrameCounty.BAD);
        due.is("raid 2", x.word(0, 0, 2, 0), FrameCounty.BAD);
        due.is("paid 1000", x.word(0, 0, 0, 1000), FrameCounty.BAD);
        for (int wild : WILD) {
            due.is("informer " + wild, x.word(wild, 0, 0, 0), FrameCounty.BAD);
            due.is("person " + wild, x.word(0, wild, 0, 0), FrameCounty.BAD);
            due.is("raid " + wild, x.word(0, 0, wild, 0), FrameCounty.BAD);
            due.is("paid " + wild, x.word(0, 0, 0, wild), FrameCounty.BAD);
        }
        due.is("no word yet", x.count(6), 0);
        for (int i = 0; i < 24; i++) {
            due.is("word " + i, x.word(i % 6, i % 4, i % 2, i % 2 * 999), i);
        }
        due.is("one more", x.word(0, 0, 0, 0), FrameCounty.FULL);
        due.is("a bad one more", x.word(6, 0, 0, 0), FrameCounty.BAD);
        due.is("words", x.count(6), 24);
    }

    private static void promise26FalseWords() {
        FrameCounty x = county();
        due.is("falseWords of none", x.falseWords(10), 0);
        x.word(0, 0, 0, 1);
        x.word(0, 2, 0, 1);
        x.word(1, 0, 1, 1);
        x.word(1, 3, 0, 1);
        due.is("falseWords(10)", x.falseWords(10), 2 + 8);
        due.is("falseWords(9): none known", x.falseWords(9), 0);
        x.pass(1);
        x.word(2, 3, 0, 1);
        x.seen(0, 0, 10, 1);
        due.is("falseWords(11)", x.falseWords(11), 2 + 4 + 8 + 16);
        due.is("falseWords(10) as known then", x.falseWords(10), 2 + 8);
        x.road(0, 2, 1);
        due.is("falseWords(11) with a new road", x.falseWords(11), 8 + 16);
        for (int wild : new int[] {Integer.MIN_VALUE, -1, 12, Integer.MAX_VALUE}) {
            due.is("falseWords(" + wild + ")", x.falseWords(wild), FrameCounty.BAD);
        }
    }

    private static void promise27Paid() {
        FrameCounty x = county();
        due.is("paid of none", x.paid(5, 0, 0), 0);
        x.word(0, 0, 0, 100);
        x.word(0, 2, 0, 999);
        x.word(5, 3, 0, 7);
        x.pass(1);
        x.word(0, 3, 0, 20);
        due.is("paid(0, 0, 10)", x.paid(0, 0, 10), 1099);
        due.is("paid(0, 1, 10)", x.paid(0, 1, 10), 999);
        due.is("paid(0, 0, 11)", x.paid(0, 0, 11), 1119);
        due.is("paid(0, 1, 11)", x.paid(0, 1, 11), 1019);
        due.is("paid(0, 0, 9)", x.paid(0, 0, 9), 0);
        due.is("paid(5, 0, 10)", x.paid(5, 0, 10), 7);
        due.is("paid(5, 1, 10)", x.paid(5, 1, 10), 7);
        due.is("paid(4, 1, 10)", x.paid(4, 1, 10), 0);
        x.seen(0, 2, 10, 1);
        due.is("false since it is known", x.paid(0, 1, 11), 1119);
        due.is("as known ahead of it", x.paid(0, 1, 10), 999);
        for (int wild : new int[] {Integer.MIN_VALUE, -1, 6, Integer.MAX_VALUE}) {
            due.is("paid(" + wild + ", 0, 0)", x.paid(wild, 0, 0), FrameCounty.NO);
        }
        for (int wild : new int[] {Integer.MIN_VALUE, -1, 2, Integer.MAX_VALUE}) {
            due.is("paid(0, " + wild + ", 0)", x.paid(0, wild, 0), FrameCounty.NO);
        }
        for (int wild : new int[] {Integer.MIN_VALUE, -1, 12, Integer.MAX_VALUE}) {
            due.is("paid(0, 0, " + wild + ")", x.paid(0, 0, wild), FrameCounty.NO);
        }
    }

    private static void promise28Held() {
        FrameCounty x = county();
        due.is("held of none", x.held(10), 0);
        x.word(0, 0, 0, 1);
        due.is("one word is not enough", x.held(10), 0);
        x.word(0, 0, 1, 1);
        due.is("two words of one informer", x.held(10), 1);
        x.word(0, 2, 0, 1);
        x.word(1, 2, 1, 1);
        due.is("one of two is false", x.held(10), 1);
        x.pass(1);
        x.word(3, 2, 1, 1);
        due.is("held(11)", x.held(11), 1 + 4);
        due.is("held(10) by what was known", x.held(10), 1);
        due.is("held(9)", x.held(9), 0);
        x.seen(0, 0, 10, 1);
        due.is("seen: false now", x.held(11), 4);
        for (int wild : new int[] {Integer.MIN_VALUE, -1, 12, Integer.MAX_VALUE}) {
            due.is("held(" + wild + ")", x.held(wild), FrameCounty.BAD);
        }
    }

    private static void promise28HeldByAnotherText() {
        FrameCounty x = county();
        Tape.feed(x, "price 0;hold 1-week+0*paid;");
        x.text();
        Tape.feed(x, "price 0;hold 99<paid;");
        x.text();
        Tape.feed(x, "price 0;hold 0-1;");
        x.text();
        x.word(0, 1, 0, 60);
        x.word(4, 1, 1, 40);
        x.word(4, 3, 0, 400);
        x.word(4, 0, 0, 99);
        x.force(1);
        due.is("week 1", x.held(0), 0);
        x.pass(4);
        due.is("the week is that of the night it is", x.held(0), 15);
        x.force(2);
        due.is("paid for true ones", x.held(10), 2);
        x.force(3);
        due.is("what is not 0 is true", x.held(0), 15);
        due.is("hangs of none", x.hangs(0, 0), 0);
    }

    private static void promise29Hangs() {
        FrameCounty x = county();
        x.word(0, 0, 0, 1);
        x.word(0, 0, 1, 1);
        x.word(1, 0, 1, 1);
        x.word(1, 1, 0, 1);
        x.word(2, 1, 1, 1);
        x.word(3, 2, 1, 1);
        x.word(3, 2, 0, 1);
        due.is("held", x.held(10), 1 + 2);
        due.is("hangs(0, 10)", x.hangs(0, 10), 1);
        due.is("hangs(1, 10)", x.hangs(1, 10), 2);
        due.is("hangs(2, 10)", x.hangs(2, 10), 2);
        due.is("hangs(3, 10)", x.hangs(3, 10), 0);
        due.is("hangs(5, 10)", x.hangs(5, 10), 0);
        x.pass(1);
        x.word(4, 1, 1, 1);
        due.is("hangs(2, 11)", x.hangs(2, 11), 0);
        due.is("hangs(2, 10) as known then", x.hangs(2, 10), 2);
        for (int wild : new int[] {Integer.MIN_VALUE, -1, 6, Integer.MAX_VALUE}) {
            due.is("hangs(" + wild + ", 0)", x.hangs(wild, 0), FrameCounty.BAD);
        }
        for (int wild : new int[] {Integer.MIN_VALUE, -1, 12, Integer.MAX_VALUE}) {
            due.is("hangs(0, " + wild + ")", x.hangs(0, wild), FrameCounty.BAD);
        }
    }

    /** "those HELD who wouldn't be": who is not held, but would be without one's words, doesn't hang on that one. */
    private static void promise29HeldOnlyWithoutTheWords() {
        FrameCounty x = county();
        x.word(0, 0, 1, 1);
        x.word(0, 1, 0, 1);
        x.word(1, 1, 1, 1);
        x.word(2, 2, 1, 1);
        x.word(3, 2, 0, 1);
        Tape.feed(x, "price 0;hold words = 0;");
        x.force(x.text());
        due.is("held without words", x.held(10), 8);
        due.is("of one word, without it", x.hangs(0, 10), 0);
        due.is("of one true word, without it", x.hangs(2, 10), 0);
        due.is("of no word, without others'", x.hangs(5, 10), 0);
        Tape.feed(x, "price 0;hold words = 1;");
        x.force(x.text());
        due.is("held by one word", x.held(10), 1 + 4);
        due.is("one hangs, another would be held without", x.hangs(0, 10), 1);
        due.is("of two words, without one", x.hangs(1, 10), 0);
        due.is("on the one true word", x.hangs(2, 10), 4);
        due.is("not on the false one", x.hangs(3, 10), 0);
    }
}

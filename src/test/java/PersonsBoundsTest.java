/** Terms, part 5, and promises 21 to 29: what each sentence says of its bounds. */
public final class PersonsBoundsTest {
    private static final Due due = new Due("PersonsBoundsTest");
    private static final long NO = FrameCounty.NO;
    private static final int BAD = -2, FULL = -4;

    public static void main(String[] args) {
        Tests.runAll(PersonsBoundsTest.class, due);
        due.end();
    }

    private static Run run() {
        return new Run(due);
    }

    /** A shop in village 0 and a raid of it in this hour of this night. */
    private static Run raided(int night, int hour) {
        return run().nights(night).then("shop(0, 0)", "frame(0, 0, 10, 0)", "raid(0, " + hour + ")");
    }

    // "PERSONS (12 at most, numbered from 0) have a HOME (a VILLAGE)"
    static void promise21TheTwelfthAndOneMore() {
        Run x = run();
        for (int p = 0; p < 12; p++) {
            x.due("canBe(" + p + ", 0, 0, 0)", BAD).due("person(" + p % 8 + ")", p).due("count(4)", p + 1);
        }
        x.due("person(0)", FULL).due("person(8)", BAD).due("person(-1)", BAD).due("count(4)", 12);
        for (int p = 0; p < 12; p++) {
            for (int v = 0; v < 8; v++) {
                x.due("canBe(" + p + ", " + v + ", 0, 0)", p % 8 == v ? 1 : 0);
            }
        }
        x.due("canBe(12, 0, 0, 0)", BAD);
    }

    static void promise21FirstAndLastHome() {
        run().due("person(-1)", BAD).due("person(8)", BAD).due("person(min)", BAD).due("person(max)", BAD).due("count(4)", 0)
            .due("person(7)", 0).due("person(0)", 1).due("canBe(0, 7, 0, 0)", 1).due("canBe(1, 0, 0, 0)", 1);
    }

    // "SEEN (40 at most)": the fortieth counts as the first one does.
    static void promise22TheFortiethAndOneMore() {
        Run x = run().then("person(0)", "person(0)");
        for (int i = 1; i <= 39; i++) {
            x.due("seen(0, 0, 0, 0)", i);
        }
        x.due("canBe(1, 0, 5, 0)", 1).due("seen(1, 7, 0, 5)", 40).due("canBe(1, 0, 5, 0)", 0).due("count(5)", 40)
            .due("seen(0, 7, 0, 5)", FULL).due("count(5)", 40).due("canBe(0, 0, 5, 0)", 1).due("seen(2, 7, 0, 5)", BAD)
            .due("seen(0, 8, 0, 5)", BAD).due("seen(0, 7, 1, 5)", BAD).due("seen(0, 7, 0, 12)", BAD);
    }

    // "a NIGHT (NIGHT at most)"
    static void promise22ThisNightAndTheNext() {
        for (int night : new int[] {0, 1, 39, 399}) {
            run().nights(night).then("person(0)").due("seen(0, 0, " + night + ", 0)", 1).due("seen(0, 0, " + (night + 1) + ", 0)", BAD)
                .due("seen(0, 0, -1, 0)", BAD).due("seen(0, 0, 0, 0)", 2).due("count(5)", 2);
        }
    }

    static void promise22EachArgumentIsKept() {
        for (int village : new int[] {0, 7}) {
            for (int hour : new int[] {0, 11}) {
                run().then("person(" + village + ")", "person(" + village + ")", "pass(9)", "road(0, 7, 1)",
                    "seen(1, " + village + ", 9, " + hour + ")")
                    .due("canBe(1, " + (7 - village) + ", " + (900 + hour) + ", 9)", 0)
                    .due("canBe(1, " + village + ", " + (900 + hour) + ", 9)", 1)
                    .due("canBe(1, " + (7 - village) + ", " + (900 + (hour == 0 ? 1 : 10)) + ", 9)", 1)
                    .due("canBe(0, " + (7 - village) + ", 911, 9)", 1).due("canBe(1, " + (7 - village) + ", 811, 9)", 1);
            }
        }
    }

    // "if it is not less HOURS from HOUR 0 ... than HOME is FAR": just as many are enough.
    static void promise23JustSoManyHoursFromHome() {
        Run x = run().then("person(0)", "road(0, 1, 9)", "road(1, 2, 1)", "road(2, 3, 1)", "road(3, 4, 1)", "road(0, 5, 1)");
        int[] far = {0, 9, 10, 11, 12, 1, 99, 99};
        int[] dark = {0, 10, 12, 14, 16, 2, 99, 99};
        for (int v = 0; v < 8; v++) {
            for (int hour = 0; hour < 12; hour++) {
                x.due("canBe(0, " + v + ", " + (800 + hour) + ", 0)", hour >= far[v] ? 1 : 0)
                    .due("canBe(0, " + v + ", " + hour + ", 0)", hour >= dark[v] ? 1 : 0);
            }
        }
    }

    // "HOURS between are not fewer than these VILLAGES are FAR": ahead of it and behind it
    static void promise23JustSoManyHoursFromWhereSeen() {
        Run x = run().then("person(0)", "road(0, 1, 3)", "road(1, 2, 4)", "pass(8)", "seen(0, 0, 8, 6)");
        for (int hour = 0; hour < 12; hour++) {
            int between = Math.abs(hour - 6);
            x.due("canBe(0, 0, " + (800 + hour) + ", 8)", 1)
                .due("canBe(0, 1, " + (800 + hour) + ", 8)", hour >= 3 && between >= 3 ? 1 : 0)
                .due("canBe(0, 2, " + (800 + hour) + ", 8)", hour >= 7 && between >= 7 ? 1 : 0);
        }
    }

    // The night that is asked for tells how far these are: known in a brighter one, and in a darker one
    static void promise23FarInThatNightFromWhereSeen() {
        run().nights(10).then("person(0)", "road(0, 1, 3)", "seen(0, 1, 5, 4)").due("canBe(0, 0, 507, 10)", 0)
            .due("canBe(0, 0, 508, 10)", 1).due("canBe(0, 0, 501, 10)", 0).due("canBe(0, 0, 500, 10)", 1);
        run().nights(25).then("person(0)", "road(0, 1, 3)", "seen(0, 1, 10, 4)").due("canBe(0, 0, 1006, 25)", 0)
            .due("canBe(0, 0, 1007, 25)", 1).due("canBe(0, 0, 1002, 25)", 0).due("canBe(0, 0, 1001, 25)", 1);
    }

    // Seen in the same hour at two places no place is left, though each alone could be.
    static void promise23SeenTwiceInOneHour() {
        run().then("person(0)", "road(0, 1, 1)", "seen(0, 0, 0, 5)", "seen(0, 1, 0, 5)").due("canBe(0, 0, 5, 0)", 0)
            .due("canBe(0, 1, 5, 0)", 0).due("canBe(0, 0, 6, 0)", 0).due("canBe(0, 0, 7, 0)", 1).due("canBe(0, 1, 7, 0)", 1);
    }

    // "in that NIGHT": not in the one ahead of it nor behind it
    static void promise23JustInThatNight() {
        run().then("person(0)", "pass(20)", "seen(0, 7, 9, 0)").due("canBe(0, 0, 800, 20)", 1).due("canBe(0, 0, 900, 20)", 0)
            .due("canBe(0, 0, 1000, 20)", 1).due("canBe(0, 0, 911, 20)", 0).due("canBe(0, 0, 811, 20)", 1);
    }

    // "KNOWN from the NIGHT on in which it is told"
    static void promise23KnownFromThenOn() {
        run().then("person(0)", "pass(5)", "seen(0, 7, 2, 0)").due("canBe(0, 0, 200, 4)", 1).due("canBe(0, 0, 200, 5)", 0)
            .due("canBe(0, 0, 200, 6)", BAD).then("pass(1)").due("canBe(0, 0, 200, 6)", 0).due("canBe(0, 0, 200, 4)", 1)
            .due("canBe(0, 0, 200, 0)", 1).due("canBe(0, 0, 200, 7)", BAD).due("canBe(0, 0, 200, -1)", BAD);
    }

    // "100 times the NIGHT and the HOUR"
    static void promise23When() {
        Run x = run().then("person(0)");
        for (int night : new int[] {0, 1, 398, 399}) {
            for (int hour = 0; hour < 100; hour++) {
                x.due("canBe(0, 0, " + (100 * night + hour) + ", 0)", hour < 12 ? 1 : BAD);
            }
        }
        x.due("canBe(0, 0, 40000, 0)", BAD).due("canBe(0, 0, 40011, 0)", BAD).due("canBe(0, 0, -1, 0)", BAD)
            .due("canBe(0, 0, -89, 0)", BAD).due("canBe(0, 0, -99, 0)", BAD).due("canBe(0, 0, -100, 0)", BAD)
            .due("canBe(0, 0, min, 0)", BAD).due("canBe(0, 0, max, 0)", BAD).due("canBe(0, 0, 2147483600, 0)", BAD);
    }

    // "99: none" is never few enough hours.
    static void promise23WithoutRoads() {
        run().then("person(0)").due("canBe(0, 1, 11, 0)", 0).due("canBe(0, 1, 811, 0)", 0)
            .then("road(0, 1, 9)").due("canBe(0, 1, 811, 0)", 1).then("road(0, 1, 99)").due("canBe(0, 1, 811, 0)", 0);
    }

    // "PERSONS (bits)": none, the first, the last of 12
    static void promise24FirstAndLastBit() {
        Run x = raided(0, 0).due("suspects(0, 0)", 0);
        for (int p = 0; p < 12; p++) {
            x.then("person(" + (p % 11 == 0 ? 0 : 1) + ")").due("suspects(0, 0)", p == 11 ? 1 + 2048 : 1);
        }
        Run all = raided(0, 11);
        all.times(12, "person(0)").due("suspects(0, 0)", 4095).then("seen(11, 1, 0, 11)").due("suspects(0, 0)", 2047)
            .then("seen(0, 1, 0, 11)").due("suspects(0, 0)", 2046);
    }

    static void promise24FirstAndLastRaid() {
        Run x = run().then("shop(0, 0)", "frame(0, 0, 10, 0)", "person(0)", "road(0, 1, 5)", "person(1)");
        for (int r = 0; r < 30; r++) {
            x.due("suspects(" + r + ", 0)", BAD).then("raid(0, " + r % 12 + ")", "mend(0, 0)")
                .due("suspects(" + r + ", 0)", r % 12 >= 6 ? 3 : 1);
        }
        x.due("suspects(30, 0)", BAD).due("suspects(-1, 0)", BAD).due("suspects(0, -1)", BAD).due("suspects(0, 1)", BAD);
    }

    // The night of the raid counts for roads and for SEEN, not the one in which it is known.
    static void promise24TheNightOfTheRaid() {
        raided(22, 5).then("person(1)", "road(0, 1, 5)").due("suspects(0, 22)", 1).then("pass(1)").due("suspects(0, 23)", 1)
            .due("suspects(0, 0)", 1);
        raided(23, 5).then("person(1)", "road(0, 1, 5)").due("suspects(0, 23)", 0).then("pass(20)").due("suspects(0, 43)", 0)
            .then("road(0, 1, 4)").due("suspects(0, 43)", 1);
    }

    // Each RAID has its own FRAME, NIGHT and HOUR, where frames, shops and villages are numbered in other orders.
    static void promise24RaidsInAnotherOrderThanFrames() {
        Run x = run().then("shop(6, 0)", "shop(0, 0)", "shop(3, 0)", "frame(0, 2, 10, 0)", "frame(0, 0, 10, 0)",
            "frame(0, 1, 10, 0)", "road(6, 1, 6)", "road(0, 5, 4)", "road(3, 4, 8)");
        for (int home : new int[] {6, 0, 3, 1, 5, 4}) {
            x.then("person(" + home + ")");
        }
        x.then("raid(1, 7)", "pass(1)", "raid(2, 5)", "pass(1)", "raid(0, 9)").due("suspects(0, 2)", 1 + 8)
            .due("suspects(1, 2)", 2 + 16).due("suspects(2, 2)", 4 + 32);
        x.then("seen(0, 7, 1, 7)", "seen(1, 7, 2, 5)", "seen(2, 7, 0, 9)", "seen(3, 7, 2, 0)").due("suspects(0, 2)", 1 + 8)
            .due("suspects(1, 2)", 2 + 16).due("suspects(2, 2)", 4 + 32);
        x.then("seen(0, 7, 0, 11)").due("suspects(0, 2)", 8).then("seen(1, 7, 1, 11)").due("suspects(1, 2)", 16)
            .then("seen(2, 7, 2, 11)").due("suspects(2, 2)", 32);
    }

    // "WORDS (24 at most, numbered from 0)", "an INFORMER (0 .. 5)", "paid 0 .. 999"
    static void promise25TheTwentyFourthAndOneMore() {
        Run x = raided(0, 0).then("person(0)", "person(7)");
        for (int w = 0; w < 24; w++) {
            x.due("word(" + (w % 2 == 0 ? 0 : 5) + ", " + (w == 23 ? 1 : 0) + ", 0, " + (w % 2 == 0 ? 0 : 999) + ")", w)
                .due("count(6)", w + 1);
        }
        x.due("word(0, 0, 0, 0)", FULL).due("word(6, 0, 0, 0)", BAD).due("word(-1, 0, 0, 0)", BAD).due("word(0, 2, 0, 0)", BAD)
            .due("word(0, 0, 1, 0)", BAD).due("word(0, 0, 0, 1000)", BAD).due("word(0, 0, 0, -1)", BAD).due("count(6)", 24)
            .due("falseWords(0)", 1 << 23).due("paid(5, 0, 0)", 12 * 999).due("paid(5, 1, 0)", 999).due("paid(0, 0, 0)", 0);
    }

    static void promise25OneBeyondEach() {
        raided(0, 0).then("person(0)").due("word(-1, 0, 0, 0)", BAD).due("word(6, 0, 0, 0)", BAD).due("word(0, -1, 0, 0)", BAD)
            .due("word(0, 1, 0, 0)", BAD).due("word(0, 0, -1, 0)", BAD).due("word(0, 0, 1, 0)", BAD).due("word(0, 0, 0, -1)", BAD)
            .due("word(0, 0, 0, 1000)", BAD).due("count(6)", 0).due("word(5, 0, 0, 999)", 0).due("word(0, 0, 0, 0)", 1)
            .due("paid(5, 0, 0)", 999).due("paid(0, 0, 0)", 0);
    }

    // "WORDS (bits)": none, the last one alone, all 24
    static void promise26FirstAndLastBit() {
        Run x = raided(0, 11).then("person(0)", "person(1)").due("falseWords(0)", 0);
        int set = 0;
        for (int w = 0; w < 24; w++) {
            boolean isFalse = w == 0 || w == 23;
            set |= isFalse ? 1 << w : 0;
            x.then("word(0, " + (isFalse ? 1 : 0) + ", 0, 1)").due("falseWords(0)", set);
        }
        x.then("seen(0, 7, 0, 11)").due("falseWords(0)", (1 << 24) - 1).due("falseWords(-1)", BAD).due("falseWords(1)", BAD);
    }

    // "of all that are KNOWN in a NIGHT, as KNOWN then": words and SEEN both from the night they are told on
    static void promise26KnownFromThenOn() {
        raided(0, 11).then("person(0)", "person(1)", "pass(3)", "word(0, 1, 0, 1)", "word(0, 0, 0, 1)", "pass(3)", "seen(0, 7, 0, 9)")
            .due("falseWords(2)", 0).due("falseWords(3)", 1).due("falseWords(5)", 1).due("falseWords(6)", 3)
            .due("falseWords(7)", BAD);
    }

    // Just as many hours as it is far: true; one hour less: false.
    static void promise26JustInTime() {
        for (int hour = 0; hour < 12; hour++) {
            raided(8, hour).then("person(1)", "road(0, 1, 6)", "word(0, 0, 0, 1)").due("falseWords(8)", hour < 6 ? 1 : 0)
                .due("paid(0, 1, 8)", hour < 6 ? 1 : 0);
        }
    }

    // All 24 words, 999 paid for each: for one informer all of it, for the others none
    static void promise27NoneAndMost() {
        Run x = raided(0, 0).then("person(7)");
        for (int w = 0; w <= 24; w++) {
            x.due("paid(5, 0, 0)", 999L * w).due("paid(5, 1, 0)", 999L * w).due("paid(0, 0, 0)", 0).then("word(5, 0, 0, 999)");
        }
        x.due("count(6)", 24).due("paid(5, 0, 0)", 23976).due("paid(4, 1, 0)", 0);
    }

    static void promise27KnownFromThenOn() {
        raided(0, 0).then("person(0)", "pass(4)", "word(2, 0, 0, 10)", "pass(1)", "word(2, 0, 0, 5)", "seen(0, 7, 0, 0)")
            .due("paid(2, 0, 3)", 0).due("paid(2, 0, 4)", 10).due("paid(2, 0, 5)", 15).due("paid(2, 1, 4)", 0)
            .due("paid(2, 1, 5)", 15).due("paid(2, 0, 6)", NO).due("paid(2, 0, -1)", NO);
    }

    static void promise27NoneSuch() {
        run().due("paid(-1, 0, 0)", NO).due("paid(6, 0, 0)", NO).due("paid(0, -1, 0)", NO).due("paid(0, 2, 0)", NO)
            .due("paid(0, 0, -1)", NO).due("paid(0, 0, 1)", NO).due("paid(min, 0, 0)", NO).due("paid(0, max, 0)", NO)
            .due("paid(0, 0, max)", NO).due("paid(0, 0, 0)", 0).due("paid(5, 1, 0)", 0);
    }

    // "PERSONS for whom hold of THE LIST isn't 0": more than one word by the first list
    static void promise28OneWordAndTwo() {
        raided(0, 11).then("person(0)", "word(0, 0, 0, 0)").due("held(0)", 0).then("word(0, 0, 0, 0)").due("held(0)", 1)
            .then("word(0, 0, 0, 0)").due("held(0)", 1);
    }

    static void promise28FirstAndLastBit() {
        Run x = run().list("price 0;hold 1;").due("held(0)", 0);
        for (int p = 0; p < 12; p++) {
            x.then("person(0)").due("held(0)", (2 << p) - 1);
        }
        Run y = raided(0, 0);
        y.times(12, "person(0)").times(2, "word(0, 11, 0, 0)").due("held(0)", 2048).times(2, "word(0, 0, 0, 0)")
            .due("held(0)", 2049).due("held(-1)", BAD).due("held(1)", BAD);
    }

    // The value of hold: the least, below 0, 0, what wraps to 0
    static void promise28EachValueThatIsNotZero() {
        run().then("person(0)").list("price 0;hold 0-1;").due("held(0)", 1).list("price 0;hold 0;").due("held(0)", 0)
            .list("price 0;hold 8192*8192*32;").due("held(0)", 1).list("price 0;hold 8192*8192*64;").due("held(0)", 0)
            .list("price 0;hold 9999;").due("held(0)", 1);
    }

    static void promise28KnownFromThenOn() {
        raided(0, 11).then("person(0)", "pass(3)", "word(0, 0, 0, 0)", "word(0, 0, 0, 0)", "pass(3)", "seen(0, 7, 0, 11)")
            .due("held(2)", 0).due("held(3)", 1).due("held(5)", 1).due("held(6)", 0).due("held(7)", BAD);
    }

    // "(The WEEK is that of NIGHT.)"
    static void promise28TheWeekOfThisNight() {
        run().then("person(0)").list("price 0;hold week-1;").due("held(0)", 1).then("pass(6)").due("held(0)", 1).then("pass(1)")
            .due("held(0)", 0).due("held(7)", 0).then("pass(6)").due("held(0)", 0).then("pass(1)").due("held(0)", 1);
    }

    // "those HELD who wouldn't be, if there were none of that one's WORDS": with one word less than enough
    static void promise29JustEnoughWords() {
        raided(0, 11).then("person(0)", "word(0, 0, 0, 0)", "word(5, 0, 0, 0)").due("held(0)", 1).due("hangs(0, 0)", 1)
            .due("hangs(5, 0)", 1).due("hangs(1, 0)", 0).then("word(5, 0, 0, 0)").due("hangs(0, 0)", 0).due("hangs(5, 0)", 1)
            .then("word(0, 0, 0, 0)").due("hangs(5, 0)", 0).due("hangs(0, 0)", 0).due("hangs(6, 0)", BAD).due("hangs(-1, 0)", BAD)
            .due("hangs(0, 1)", BAD).due("hangs(0, -1)", BAD);
    }

    static void promise29FirstAndLastBit() {
        Run x = raided(0, 0);
        x.times(12, "person(0)");
        for (int p = 0; p < 12; p++) {
            x.times(2, "word(3, " + p + ", 0, 0)").due("hangs(3, 0)", (2 << p) - 1).due("hangs(2, 0)", 0);
        }
    }

    static void promise29KnownFromThenOn() {
        raided(0, 11).then("person(0)", "word(1, 0, 0, 0)", "pass(2)", "word(0, 0, 0, 0)", "pass(2)", "word(2, 0, 0, 0)")
            .due("hangs(0, 1)", 0).due("hangs(0, 2)", 1).due("hangs(1, 3)", 1).due("hangs(0, 4)", 0).due("hangs(0, 5)", BAD);
    }

    // What was paid counts, too, where the text asks for it.
    static void promise29WhatWasPaid() {
        raided(0, 11).then("person(0)", "word(1, 0, 0, 999)", "word(2, 0, 0, 1)").list("price 0;hold 999<paid;").due("held(0)", 1)
            .due("hangs(1, 0)", 1).due("hangs(2, 0)", 1).list("price 0;hold 998<paid;").due("hangs(1, 0)", 1)
            .due("hangs(2, 0)", 0).list("price 0;hold 1000<paid;").due("held(0)", 0).due("hangs(1, 0)", 0);
    }
}

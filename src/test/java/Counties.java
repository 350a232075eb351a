import java.util.ArrayList;
import java.util.List;

/** Three counties, each as the calls that make it: with nothing there, with some of all, with all places taken. */
final class Counties {
    static final List<String> EMPTY = List.of();
    static final List<String> SOME = some();
    /** What each call that makes the county with all places taken answers stands in FULL_ANSWERS. */
    static final List<String> FULL = new ArrayList<>();
    static final List<Long> FULL_ANSWERS = new ArrayList<>();
    static final List<List<String>> ALL = List.of(EMPTY, SOME, FULL);
    static final String[] NAMES = {"the new county", "some county", "the full county"};

    static {
        fill();
    }

    private Counties() {
    }

    static FrameCounty made(List<String> calls) {
        FrameCounty x = new FrameCounty();
        for (String call : calls) {
            Call.of(call).on(x);
        }
        return x;
    }

    /** NIGHT 40 (bright, as 8 is), STRUCK are frames 1 and 3, SPARED is 0; text 1 is THE LIST; sheet 3 is missing. */
    private static List<String> some() {
        List<String> calls = new ArrayList<>(List.of(
            "road(0, 1, 3)", "road(1, 2, 2)", "road(2, 3, 9)", "road(0, 4, 1)", "road(4, 5, 5)",
            "shop(0, 40)", "shop(1, 20)", "shop(3, 99)", "shop(6, 0)",
            "frame(0, 0, 30, 5)", "frame(1, 0, 45, 0)", "frame(2, 1, 10, 99)", "frame(3, 1, 60, 7)",
            "frame(4, 2, 39, 9)", "frame(5, 2, 27, 30)", "frame(0, 3, 19, 1)", "frame(5, 3, 60, 99)",
            "pass(8)",
            "person(0)", "person(1)", "person(4)", "person(6)", "person(3)",
            "raid(0, 4)", "raid(2, 11)", "mend(0, 0)",
            "seen(0, 1, 8, 5)", "seen(1, 2, 8, 2)",
            "word(0, 0, 0, 100)", "word(1, 0, 0, 50)", "word(1, 1, 1, 999)", "word(2, 2, 0, 0)",
            "pass(32)",
            "raid(1, 0)", "raid(3, 6)", "mend(6, 2)",
            "seen(2, 4, 40, 3)", "seen(0, 0, 40, 0)", "seen(3, 6, 39, 11)",
            "word(3, 2, 2, 7)", "word(5, 4, 3, 300)", "word(0, 1, 3, 20)",
            "meeting(0, 1, 3)", "meeting(1, 2, 8)", "meeting(3, 4, 8)", "meeting(2, 3, 40)",
            "taker(2, 20)", "taker(4, 40)",
            "clause(-10, 30)", "clause(20, -5)", "clause(5, 5)", "clause(-40, 60)", "against(0, 1)",
            "row(1003)", "row(30)", "row(9901020304)",
            "sheet(0, 0, 4)", "cell(0, 0, 70)", "cell(0, 1, -1)", "cell(0, 2, 99)", "cell(0, 3, 3)",
            "sheet(1, 1, 8)", "cell(1, 0, 11)", "cell(1, 1, 12)", "cell(1, 2, 100)", "cell(1, 7, 17)",
            "sheet(2, 2, 40)", "cell(2, 0, 20)", "cell(2, 1, 65536)", "cell(2, 38, 5)", "cell(2, 39, 6)"));
        calls.addAll(Tape.calls("price 2*width-kind;hold words+paid-7;"));
        calls.add("text()");
        calls.addAll(Tape.calls("price 0;hold 0;"));
        calls.add("text()");
        calls.add("force(1)");
        calls.addAll(Tape.calls("pri"));
        return calls;
    }

    private static void put(String call, long answer) {
        FULL.add(call);
        FULL_ANSWERS.add(answer);
    }

    private static void putAll(long answer, String... calls) {
        for (String call : calls) {
            put(call, answer);
        }
    }

    private static void fill() {
        putAll(99, "road(0, 1, 1)", "road(1, 2, 2)", "road(2, 3, 3)", "road(3, 4, 9)", "road(5, 6, 4)", "road(0, 2, 2)");
        for (int s = 0; s < 8; s++) {
            put("shop(" + s * 3 % 8 + ", " + (99 - 14 * s) + ")", s);
        }
        for (int p = 0; p < 12; p++) {
            put("person(" + p % 8 + ")", p);
        }
        for (int f = 0; f < 20; f++) {
            put("frame(" + f % 6 + ", " + f % 8 + ", " + (10 + f * 7 % 51) + ", " + f * 13 % 100 + ")", f);
        }
        fillNight(0, 0);
        pass(60, 120, 180);
        fillNight(1, 180);
        pass(240, 300, 360);
        put("pass(39)", 399);
        fillNight(2, 399);
        putAll(1, "mend(10, 0)", "mend(11, 0)", "mend(3, 2)");
        fillRest();
        fillTextsAndSheets();
    }

    private static void pass(int... nights) {
        for (int night : nights) {
            put("pass(60)", night);
        }
    }

    /** A third of all raids, of SEEN, WORDS, MEETINGS: behind the last third all places are taken. */
    private static void fillNight(int third, int night) {
        for (int i = 0; i < 10; i++) {
            put("raid(" + (5 * third + i) + ", " + (7 * i + third) % 12 + ")", 10 * third + i);
        }
        for (int i = 0; i < 10 && third < 2; i++) {
            put("mend(" + (5 * third + i) + ", 0)", 1);
        }
        for (int i = third * 40 / 3; i < (third + 1) * 40 / 3; i++) {
            int person = third < 2 ? i % 12 : Math.max(0, i - 28);
            put("seen(" + person + ", " + i * 5 % 8 + ", " + night + ", " + i * 7 % 12 + ")", i + 1);
            put("meeting(" + i % 12 + ", " + (i % 12 + 1 + i % 11) % 12 + ", " + night + ")", i + 1);
        }
        for (int i = 8 * third; i < 8 * third + 8; i++) {
            put("word(" + i % 6 + ", " + (i * 5 + 10) % 12 + ", " + (i + third) + ", " + 999 * (i % 2) + ")", i);
        }
    }

    private static void fillRest() {
        for (int p = 0; p < 12; p++) {
            put("taker(" + p + ", " + (399 - 36 * p) + ")", -1);
        }
        for (int c = 0; c < 8; c++) {
            put("clause(" + (28 * c - 99) + ", " + (99 - 27 * c) + ")", c);
        }
        putAll(1, "against(0, 7)", "against(1, 6)", "against(5, 2)", "against(3, 4)");
        for (int r = 0; r < 6; r++) {
            put("row(" + (r == 5 ? 9999999999L : 1020304050L * r) + ")", r);
        }
    }

    private static void fillTextsAndSheets() {
        String[] texts = {"price 0;hold 0;", "price 9999;hold 1;", "price width;hold paid;", "price -kind;hold -week;",
            "price rent;hold words;"};
        for (int t = 0; t < texts.length; t++) {
            feed(texts[t]);
            put("text()", t + 1);
        }
        put("force(5)", 0);
        feed(" ".repeat(159) + "#");
        for (int s = 0; s < 4; s++) {
            putAll(1, "sheet(" + s + ", " + s % 3 + ", 40)", "cell(" + s + ", 0, " + 11 * s + ")",
                "cell(" + s + ", 39, " + (99 - s) + ")", "cell(" + s + ", 20, 100)");
        }
    }

    private static void feed(String text) {
        int fed = 0;
        for (String call : Tape.calls(text)) {
            fed = Math.min(fed + 8, text.length());
            put(call, fed);
        }
    }
}

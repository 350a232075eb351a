import java.util.ArrayList;
import java.util.List;

/** Terms, part 3, and promises 12 to 15: what each sentence says of its bounds. */
public final class TextsBoundsTest {
    private static final Due due = new Due("TextsBoundsTest");
    private static final long NO = FrameCounty.NO;
    private static final int BAD = -2, FULL = -4, FAULT = -100;
    private static final String SHORT = "price 1;hold 2;";
    private static final String[] WORDS = {"price", "hold", "or", "and", "not", "kind", "width", "week", "rent", "words", "paid"};

    public static void main(String[] args) {
        Tests.runAll(TextsBoundsTest.class, due);
        due.end();
    }

    private static Run run() {
        return new Run(due);
    }

    private static void text(String text, long answer) {
        due.is("text of '" + text.replace('\n', '/') + "'", run().feed(text).ask("text()"), answer);
    }

    private static void fault(String text, int place) {
        text(text, FAULT - place);
    }

    // "The n lowest bytes of a number, the lowest first": what stands above them does not come.
    static void promise12EachNumberOfBytes() {
        for (int n = 1; n <= 8; n++) {
            Run x = run();
            for (int from = 0; from < SHORT.length(); from += n) {
                int some = Math.min(n, SHORT.length() - from);
                long above = some == 8 ? 0 : -1L << 8 * some;
                x.due("feed(" + some + ", " + (Tape.bytes(SHORT, from, some) | above) + ")", from + some);
            }
            x.due("count(11)", SHORT.length()).due("text()", 1);
        }
    }

    static void promise12LeastAndGreatestNumber() {
        run().due("feed(8, min)", 8).due("text()", FAULT).due("feed(8, max)", 8).due("text()", FAULT).due("feed(8, -1)", 8)
            .due("text()", FAULT).due("feed(8, 0)", 8).due("text()", FAULT).due("feed(1, min)", 1).due("text()", FAULT)
            .due("feed(1, 288)", 1).due("text()", FAULT - 1).due("feed(2, -57312)", 2).due("text()", FAULT - 2)
            .due("feed(1, -224)", 1).due("text()", FAULT - 1).due("feed(1, 31)", 1).due("text()", FAULT);
    }

    static void promise12NoneAndNineBytes() {
        run().due("feed(0, 32)", BAD).due("feed(9, 32)", BAD).due("feed(-1, 32)", BAD).due("feed(min, 32)", BAD)
            .due("feed(max, 32)", BAD).due("feed(257, 32)", BAD).due("count(11)", 0).due("feed(1, 32)", 1).due("feed(8, 32)", 9);
    }

    // "THE TAPE (160 bytes at most)": from each size that is left, with each number of bytes
    static void promise12TheLastBytes() {
        for (int left = 0; left <= 8; left++) {
            for (int n = 1; n <= 8; n++) {
                Run x = run().feed(" ".repeat(160 - left)).due("count(11)", 160 - left);
                x.due("feed(" + n + ", 2314885530818453536)", n <= left ? 160 - left + n : FULL);
                x.due("count(11)", n <= left ? 160 - left + n : 160 - left);
                x.due("text()", FAULT - (n <= left ? 160 - left + n : 160 - left)).due("count(11)", 0);
            }
        }
    }

    static void promise12BadAheadOfFull() {
        run().feed(" ".repeat(160)).due("feed(0, 32)", BAD).due("feed(9, 32)", BAD).due("feed(1, 32)", FULL).due("count(11)", 160);
    }

    // By a text and by a fault the tape is empty: there is room for 160 again.
    static void promise13TheTapeIsEmptyThen() {
        run().feed(SHORT + " ".repeat(145)).due("count(11)", 160).due("text()", 1).due("count(11)", 0).feed(SHORT + " ".repeat(145))
            .due("count(11)", 160).due("text()", 2).feed(SHORT + " ".repeat(144) + "#").due("count(11)", 160)
            .due("text()", FAULT - 159).due("count(11)", 0).feed(SHORT).due("text()", 3).due("text()", FAULT);
    }

    // "the text's size, if it ends too early": each length that it can have
    static void promise13EndsTooEarly() {
        String text = "price 1 ; hold 2 ;";
        int[] places = {0, 0, 0, 0, 0, 5, 6, 7, 8, 9, 10, 10, 10, 10, 14, 15, 16, 17};
        for (int size = 0; size < text.length(); size++) {
            fault(text.substring(0, size), places[size]);
        }
        text(text, 1);
    }

    static void promise13EndsTooEarlyBehindEachSign() {
        for (String open : new String[] {"1 +", "1 -", "1 *", "1 <", "1 =", "1 or", "1 and", "not", "-", "(", "(1", "1", "",
            "- (1 + 2", "not 1 = 2"}) {
            fault("price " + open, 6 + open.length());
            fault("price " + open + " ", 7 + open.length());
            fault("price 1;hold " + open, 13 + open.length());
            fault("price 1;hold " + open + "\n \n", 16 + open.length());
        }
    }

    static void promise13EndsTooEarlyOnAFullTape() {
        fault(" ".repeat(160), 160);
        fault("\n".repeat(159), 159);
        fault("price 1;hold 1" + " ".repeat(146), 160);
        fault("price 1" + "+1".repeat(76) + "+", 160);
        fault("price " + "-1*".repeat(51) + "1", 160);
        fault("price (" + " ".repeat(153), 160);
    }

    static void promise13FaultsAtTheFirstAndTheLastByte() {
        fault("#" + SHORT, 0);
        fault("1", 0);
        fault(SHORT + " ".repeat(144) + "#", 159);
        fault(SHORT + " ".repeat(144) + ";", 159);
        fault(SHORT + " ".repeat(144) + "1", 159);
        fault(SHORT + " ".repeat(144) + "a", 159);
        fault(SHORT + " ".repeat(140) + "price", 155);
        fault(SHORT + " ".repeat(140) + "12345", 155);
        fault(" ".repeat(155) + "12345", 155);
    }

    static void promise13LongestTexts() {
        text("price 1" + "+1".repeat(72) + ";hold 2; ", 1);
        text("price 1" + "*2".repeat(72) + " ;hold 2;", 1);
        text("price 1" + "-1".repeat(72) + ";hold 2\n;", 1);
        text("price 1" + " or 1".repeat(29) + ";hold 2;", 1);
        text("price 1;hold 2" + " or 1".repeat(29) + ";", 1);
        text("price 1" + " and 1".repeat(24) + "; hold 2;", 1);
        text("price 1;hold 2" + " and 1".repeat(24) + "\n;", 1);
        text("price " + "9999+".repeat(28) + "999;hold 2;", 1);
        text(" ".repeat(145) + SHORT, 1);
        text("price" + "\n".repeat(146) + "1;hold 2;", 1);
        text("price" + "\n".repeat(146) + "1;hold 2", FAULT - 159);
        text("price" + "\n".repeat(155), FAULT - 160);
        due.is("a full tape's sum", run().list("price 1" + "+1".repeat(72) + ";hold 2; ").then("shop(0, 0)", "frame(0, 0, 10, 0)")
            .ask("says(0, 0)"), 73);
    }

    // Each byte of a full tape is a TOKEN, and its end is one more.
    static void promise13AsManyTokensAsBytes() {
        for (String one : new String[] {";", "(", ")", "-", "+", "*", "<", "=", "#"}) {
            fault(one.repeat(160), 0);
            fault("price " + one.repeat(154), one.equals("(") || one.equals("-") ? 11 : 6);
            fault("price 1;" + one.repeat(152), 8);
            fault(SHORT + one.repeat(145), 15);
        }
        fault("price(((((" + "-".repeat(150), 10);
        fault("price 1" + "+".repeat(153), 8);
        fault("price 1" + "-".repeat(153), 13);
    }

    // "blanks (32, 10) may stand between"; "a byte that begins none": each byte behind a whole text
    static void promise13EachByteBehindAText() {
        for (int b = 0; b < 256; b++) {
            boolean isBlank = b == 32 || b == 10;
            text(SHORT + (char) b, isBlank ? 1 : FAULT - 15);
            text((char) b + SHORT, isBlank ? 1 : FAULT);
        }
    }

    // What stands behind a number: a blank, another digit, a sign, or what can't stand there
    static void promise13EachByteBehindANumber() {
        for (int b = 0; b < 256; b++) {
            char c = (char) b;
            boolean isBlank = b == 32 || b == 10;
            boolean goesOn = c >= '0' && c <= '9' || "+-*<=".indexOf(c) >= 0;
            text("price 1" + c + "2;hold 1;", goesOn ? 1 : isBlank || c == ';' ? FAULT - 8 : FAULT - 7);
        }
    }

    // a .. z are of one WORD; what is beside them is not
    static void promise13EachByteBehindAWord() {
        for (int b = 0; b < 256; b++) {
            char c = (char) b;
            boolean isBlank = b == 32 || b == 10;
            boolean isLetter = c >= 'a' && c <= 'z';
            boolean goesOn = "+-*<=".indexOf(c) >= 0;
            text("price kind" + c + "2;hold 1;", goesOn ? 1 : isLetter ? FAULT - 6 : isBlank || c == ';' ? FAULT - 11 : FAULT - 10);
        }
    }

    // "NUMBERS (as many digits as stand there, 4 at most)"
    static void promise13FourDigitsAndFive() {
        for (String digit : new String[] {"0", "1", "9"}) {
            for (int n = 1; n <= 150; n++) {
                text("price " + digit.repeat(n) + ";a", n <= 4 ? FAULT - 7 - n : FAULT - 6);
            }
        }
        text("price 9999;hold 0000;", 1);
        fault("price 9999;hold 00000;", 16);
        fault("price 9999 + 10000;hold 0;", 13);
        fault("price 9999+10000;hold 0;", 11);
        fault("price 1;hold 99999", 13);
        text("price 1234-5678*9012;hold 3456;", 1);
    }

    // "a WORD that is neither KEY nor NAME": each of them with a letter less, and one more
    static void promise13OneLetterLessOrMore() {
        for (String word : WORDS) {
            fault(word.substring(0, word.length() - 1) + " 1;hold 1;", 0);
            for (String other : new String[] {word.substring(0, word.length() - 1), word + "s", "a" + word, word.substring(1),
                word + word, word.substring(0, word.length() - 1) + "z", word.toUpperCase()}) {
                fault("price " + other + ";hold 1;", 6);
                fault("price 1;hold 2 + " + other + ";", 17);
                fault("price 1 " + other + ";hold 1;", 8);
            }
        }
        for (char c = 'a'; c <= 'z'; c++) {
            fault("price " + c + ";hold 1;", 6);
        }
        fault("a".repeat(160), 0);
        fault("price " + "kind".repeat(38), 6);
    }

    // Where each word may stand as the first one of an E, and where not.
    static void promise13EachWordAtEachPlace() {
        for (String word : WORDS) {
            boolean isName = !List.of("price", "hold", "or", "and", "not").contains(word);
            text(word + " 1;hold 1;", word.equals("price") ? 1 : FAULT);
            text("price 1;" + word + " 1;", word.equals("hold") ? 1 : FAULT - 8);
            text("price " + word + ";hold 1;", isName ? 1 : word.equals("not") ? FAULT - 9 : FAULT - 6);
            text("price 1 " + word + " 1;hold 1;", word.equals("or") || word.equals("and") ? 1 : FAULT - 8);
            text("price 1+" + word + ";hold 1;", isName ? 1 : FAULT - 8);
            text("price -" + word + ";hold 1;", isName ? 1 : FAULT - 7);
            text("price 1<" + word + ";hold 1;", isName ? 1 : FAULT - 8);
            text("price not " + word + ";hold 1;", isName ? 1 : word.equals("not") ? FAULT - 13 : FAULT - 10);
            text("price (" + word + ");hold 1;", isName ? 1 : word.equals("not") ? FAULT - 10 : FAULT - 7);
        }
    }

    private static void sequences(String ahead, int more, List<String> to) {
        if (more == 0) {
            to.add(ahead);
            return;
        }
        sequences(ahead + "(", more - 1, to);
        sequences(ahead + "-", more - 1, to);
        if (!ahead.endsWith("-")) {
            sequences(ahead + "n", more - 1, to);
        }
    }

    private static String opened(String sequence) {
        return sequence.replace("n", "not ");
    }

    private static String closed(String sequence) {
        return ")".repeat((int) sequence.chars().filter(c -> c == '(').count());
    }

    // "a ( , a not, a - ahead of a ONE while 5 of these are open": all ways to open five, and a sixth one
    static void promise13FiveOpenInEachOrder() {
        List<String> five = new ArrayList<>();
        sequences("", 5, five);
        for (String open : five) {
            text("price " + opened(open) + "1" + closed(open) + ";hold 1;", 1);
            text("price 1;hold " + opened(open) + "kind" + closed(open) + ";", 1);
            for (String sixth : new String[] {"(", "-", "not "}) {
                fault("price " + opened(open) + sixth + "1;hold 1;", 6 + opened(open).length());
                fault("price 1;hold " + opened(open) + sixth + "1;", 13 + opened(open).length());
            }
        }
    }

    // "a ( till its ) , not and - till what they belong to ends": then others may open.
    static void promise13OpenTill() {
        String five = "(((((1)))))";
        text("price " + five + "+" + five + "*" + five + "<" + five + ";hold " + five + " or " + five + ";", 1);
        text("price -1+" + five + ";hold -1*" + five + ";", 1);
        text("price -(1)+" + five + ";hold -(-(1))*" + five + ";", 1);
        text("price -1<" + five + ";hold -kind=" + five + ";", 1);
        text("price not 1 and " + five + ";hold not 1 or " + five + ";", 1);
        text("price not not 1 = 2 and not ((((1))));hold 1;", 1);
        fault("price not 1+" + five + ";hold 1;", 16);
        fault("price not 1*" + five + ";hold 1;", 16);
        fault("price not 1<" + five + ";hold 1;", 16);
        fault("price not 1=1-" + five + ";hold 1;", 18);
        text("price not 1<((((1))));hold 1;", 1);
        fault("price (1+" + five + ");hold 1;", 13);
        fault("price (1 or " + five + ");hold 1;", 16);
        fault("price (1)+(" + five + ");hold 1;", 15);
        text("price (1)+" + five + ";hold 1;", 1);
        fault("price -(1+((((((1))))));hold 1;", 13);
        fault("price ----(-(1));hold 1;", 11);
        text("price ----(1)-----1;hold 1;", 1);
        text("price 1-----(1);hold 1;", 1);
        fault("price 1------(1);hold 1;", 13);
    }

    // What the operands ahead of one opened is closed there; what stands around all of them is open.
    static void promise13FiveOpenInEachOperand() {
        for (String sign : new String[] {" or ", " and ", "<", "=", "+", "-", "*"}) {
            int operands = sign.equals("<") || sign.equals("=") ? 2 : 4;
            for (int place = 0; place < operands; place++) {
                for (int around = 0; around <= 5; around++) {
                    fiveOpenInOperand(sign, operands, place, around);
                }
            }
        }
    }

    private static void fiveOpenInOperand(String sign, int operands, int place, int around) {
        String ahead = "price " + "(".repeat(around) + ("1" + sign).repeat(place);
        String behind = (sign + "1").repeat(operands - 1 - place) + ")".repeat(around) + ";hold 1;";
        int more = 5 - around;
        text(ahead + "(".repeat(more) + "1" + ")".repeat(more) + behind, 1);
        text(ahead + "-".repeat(more) + "1" + behind, 1);
        fault(ahead + "(".repeat(more + 1) + "1" + ")".repeat(more + 1) + behind, ahead.length() + more);
        fault(ahead + "-".repeat(more + 1) + "1" + behind, ahead.length() + more);
        if (sign.equals(" or ") || sign.equals(" and ")) {
            text(ahead + "not ".repeat(more) + "1" + behind, 1);
            fault(ahead + "not ".repeat(more + 1) + "1" + behind, ahead.length() + 4 * more);
        }
    }

    // Depth of the price does not count for the hold.
    static void promise13DepthOfBothParts() {
        text("price (((((1)))));hold (((((1)))));", 1);
        text("price not not not not not 1;hold not not not not not 1;", 1);
        text("price -----1;hold -----1;", 1);
        fault("price -----1;hold ------1;", 23);
    }

    // "There are 6 TEXTS at most, TEXT 0 with them."
    static void promise13TheSixthTextAndTheSeventh() {
        Run x = run().due("count(10)", 1);
        for (int t = 1; t < 6; t++) {
            x.due("force(" + t + ")", BAD).feed("price " + t + ";hold " + t + ";").due("text()", t).due("count(10)", t + 1);
        }
        x.due("text()", FULL).feed("price 6;hold 6;").due("text()", FULL).due("text()", FULL).due("count(11)", 15)
            .due("count(10)", 6).due("force(6)", BAD).then("shop(0, 0)", "frame(0, 0, 33, 0)");
        for (int t = 0; t < 6; t++) {
            x.due("force(" + t + ")", t == 0 ? 0 : t - 1).due("says(0, 0)", t == 0 ? 43 : t);
        }
    }

    // A text with a fault takes no place: the next one has its number.
    static void promise13FaultsTakeNoPlace() {
        Run x = run();
        for (int i = 0; i < 20; i++) {
            x.feed("price " + i + ";hold;").due("text()", i < 10 ? FAULT - 12 : FAULT - 13).due("count(10)", 1);
        }
        x.feed(SHORT).due("text()", 1).due("count(10)", 2).due("force(2)", BAD).due("count(12)", 0);
    }

    // Nor does anything stay of a text that has one, be it ever so long.
    static void promise13NothingStaysOfAFault() {
        Run x = run().then("shop(0, 0)", "frame(0, 0, 10, 0)", "person(0)");
        for (int i = 0; i < 4; i++) {
            x.feed("price 3" + "+1".repeat(70) + ";hold 4 5").due("text()", FAULT - 155).feed("price 3;hold " + "4*".repeat(70))
                .due("text()", FAULT - 153);
        }
        x.list("price 1;hold 2;").due("says(0, 0)", 1).due("says(1, 0)", 2).feed("price 9;hold").due("text()", FAULT - 12)
            .due("says(0, 0)", 1).due("says(1, 0)", 2).list("price 7+kind;hold 8+week;").due("says(0, 0)", 7).due("says(1, 0)", 8)
            .due("force(1)", 2).due("says(0, 0)", 1).due("says(1, 0)", 2).due("force(0)", 1).due("says(0, 0)", 20)
            .due("says(1, 0)", 0);
    }

    // "TEXT 0, at first THE LIST, is: price 10 + width ; hold 1 < words ;"
    static void promise14TheFirstList() {
        Run x = run().then("shop(0, 0)", "frame(0, 0, 10, 99)", "frame(5, 0, 60, 0)", "person(0)", "raid(0, 11)").nights(20)
            .due("says(0, 0)", 20).due("says(0, 1)", 70).due("keeps(0)", 0).due("pays(0, 69)", 0).due("keeps(0)", 0)
            .due("pays(0, 70)", 69).due("keeps(0)", 1);
        for (int w = 0; w < 24; w++) {
            x.due("says(1, 0)", w > 1 ? 1 : 0).then("word(0, 0, 0, 999)");
        }
        x.due("says(1, 0)", 1).list("price 0;hold 0;").due("says(1, 0)", 0).due("force(0)", 1).due("says(1, 0)", 1);
    }

    static void promise14FirstAndLastText() {
        run().due("force(-1)", BAD).due("force(1)", BAD).due("force(0)", 0).due("force(6)", BAD).feed(SHORT).then("text()")
            .due("force(1)", 0).due("force(2)", BAD).due("count(12)", 1).due("force(min)", BAD).due("force(max)", BAD)
            .due("count(12)", 1).due("force(0)", 1).due("count(12)", 0);
    }

    static void promise15FirstAndLastFrameAndPerson() {
        Run x = run().list("price width;hold words;").then("shop(0, 0)");
        for (int f = 0; f < 20; f++) {
            x.due("says(0, " + f + ")", NO).then("frame(0, 0, " + (10 + f) + ", 0)").due("says(0, " + f + ")", 10 + f);
        }
        for (int p = 0; p < 12; p++) {
            x.due("says(1, " + p + ")", NO).then("person(0)").due("says(1, " + p + ")", 0);
        }
        x.due("says(0, 20)", NO).due("says(1, 12)", NO).due("says(0, -1)", NO).due("says(1, -1)", NO).due("says(-1, 0)", NO)
            .due("says(2, 0)", NO).due("says(min, 0)", NO).due("says(max, 0)", NO).due("says(0, min)", NO).due("says(1, max)", NO);
    }

    private static void value(String e, int value) {
        Run x = run().list("price " + e + ";hold " + e + ";").then("shop(0, 0)", "frame(0, 0, 10, 0)", "person(0)");
        x.due("says(0, 0)", value).due("says(1, 0)", value).due("held(0)", value == 0 ? 0 : 1);
    }

    // "An E is an int (32 bits, wrapping)": 8192 * 8192 * 32 is 2 to the 31.
    static void promise15WrapsAround() {
        String top = "8192*8192*32";
        value(top + "-1", Integer.MAX_VALUE);
        value(top, Integer.MIN_VALUE);
        value(top + "-1+1", Integer.MIN_VALUE);
        value("-(" + top + ")", Integer.MIN_VALUE);
        value("-" + top, Integer.MIN_VALUE);
        value("0-" + top + "-1", Integer.MAX_VALUE);
        value("-(" + top + "-1)", -Integer.MAX_VALUE);
        value(top + "+" + top, 0);
        value(top + "*2", 0);
        value("(" + top + "-1)*2", -2);
        value("(" + top + "-1)*(" + top + "-1)", 1);
        value(top + "*" + top, 0);
        value("(" + top + ")*(0-1)", Integer.MIN_VALUE);
        value("9999*9999*9999*9999", 9999 * 9999 * 9999 * 9999);
        value("-9999*9999*9999", -9999 * 9999 * 9999);
        value("8192*8192*64+7", 7);
    }

    // "what is not 0 is true", "1 or 0": with the least, the greatest, and what has wrapped to 0
    static void promise15TrueOrNot() {
        String top = "8192*8192*32";
        value("not " + top, 0);
        value("not " + top + "*2", 1);
        value(top + " and 1", 1);
        value(top + "*2 and 1", 0);
        value(top + "*2 or 0", 0);
        value("0 or " + top, 1);
        value("0 or -1", 1);
        value("-1 and -1", 1);
        value("not -1", 0);
        value("not not 9999", 1);
        value("9999 and 9998", 1);
        value("0 or 0", 0);
        value("0 and 0", 0);
        value("1 and 2 and 3 and 0", 0);
        value("0 or 0 or 0 or 4", 1);
    }

    // Wrapped numbers are compared as ints: the least is below the greatest, though one lies behind the other.
    static void promise15LessAndSame() {
        String top = "8192*8192*32";
        value(top + "<" + top + "-1", 1);
        value(top + "-1<" + top, 0);
        value(top + "<0", 1);
        value("0<" + top + "-1", 1);
        value(top + "=0-" + top, 1);
        value(top + "=" + top + "-1", 0);
        value("-1<0", 1);
        value("0<-1", 0);
        value("0<0", 0);
        value("0<1", 1);
        value("1<0", 0);
        value("9999=9999", 1);
        value("9998=9999", 0);
    }

    // The names at their bounds: kind 0 .. 5, width 10 .. 60, rent that is paid 0 .. 159, words and paid 0
    static void promise15NamesOfFrames() {
        int[][] frames = {{0, 10, 0}, {0, 60, 99}, {1, 60, 99}, {2, 10, 1}, {2, 60, 99}, {3, 10, 0}, {3, 60, 99}, {4, 10, 1},
            {5, 10, 0}, {5, 60, 99}};
        int[] paid = {0, 99, 99, 0, 49, 2, 101, 0, 10, 159};
        String[] names = {"kind", "width", "rent", "words", "paid"};
        for (int i = 0; i < frames.length; i++) {
            Run x = run().then("shop(0, 0)", "frame(" + frames[i][0] + ", 0, " + frames[i][1] + ", " + frames[i][2] + ")",
                "person(0)", "raid(0, 0)", "word(0, 0, 0, 999)");
            int[] values = {frames[i][0], frames[i][1], paid[i], 0, 0};
            for (int n = 0; n < names.length; n++) {
                x.list("price " + names[n] + ";hold " + names[n] + ";").due("says(0, 0)", values[n])
                    .due("says(1, 0)", n < 3 ? 0 : n == 3 ? 1 : 999);
            }
        }
    }

    // All 24 WORDS name one PERSON: words, and what was paid for them, at their most
    static void promise15MostWordsAndMostPaid() {
        Run x = run().list("price 0;hold words;").feed("price 0;hold paid;").then("text()", "shop(0, 0)", "frame(0, 0, 10, 0)",
            "person(0)", "person(7)", "raid(0, 11)");
        for (int w = 0; w < 24; w++) {
            x.due("says(1, 0)", w).then("word(" + w % 6 + ", 0, 0, 999)");
        }
        x.due("says(1, 0)", 24).due("says(1, 1)", 0).then("force(2)").due("says(1, 0)", 24 * 999).due("says(1, 1)", 0)
            .due("word(0, 0, 0, 999)", FULL).due("says(1, 0)", 24 * 999);
    }

    // FALSE ones do not count: neither as words nor as paid.
    static void promise15AllWordsAreFalse() {
        Run x = run().list("price 0;hold words+paid;").then("shop(0, 0)", "frame(0, 0, 10, 0)", "person(7)", "raid(0, 11)");
        x.times(24, "word(5, 0, 0, 999)").due("says(1, 0)", 0).due("held(0)", 0).then("road(0, 7, 9)").due("says(1, 0)", 24 * 1000);
    }
}

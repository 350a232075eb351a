/** Promises 12 to 15: the tape and the texts. */
public final class TextsTest {
    private static final Due due = new Due("TextsTest");

    public static void main(String[] args) {
        promise12Feed();
        promise13Text();
        promise13Full();
        promise13FaultsOfTokens();
        promise13FaultsOfGrammar();
        promise13FaultsOfDepth();
        promise14Force();
        promise15Says();
        promise15Values();
        promise15Names();
        promise15NamesOfPersons();
        due.end();
    }

    private static void promise12Feed() {
        FrameCounty x = new FrameCounty();
        due.is("feed(0, 1)", x.feed(0, 1L), FrameCounty.BAD);
        due.is("feed(9, 1)", x.feed(9, 1L), FrameCounty.BAD);
        due.is("feed(-1, 1)", x.feed(-1, 1L), FrameCounty.BAD);
        due.is("feed(min, 1)", x.feed(Integer.MIN_VALUE, 1L), FrameCounty.BAD);
        due.is("feed(max, 1)", x.feed(Integer.MAX_VALUE, 1L), FrameCounty.BAD);
        due.is("no byte", x.count(11), 0);
        for (int i = 0; i < 19; i++) {
            due.is("feed of eight", x.feed(8, 0x2020202020202020L), 8 * i + 8);
        }
        due.is("feed(7, ..)", x.feed(7, 0x2020202020202020L), 159);
        due.is("feed(2, ..) of 159", x.feed(2, 0x2020L), FrameCounty.FULL);
        due.is("feed(9, ..) of 159", x.feed(9, 0x2020L), FrameCounty.BAD);
        due.is("bytes as they were", x.count(11), 159);
        due.is("feed(1, ..) of 159", x.feed(1, 0x2020L), 160);
        due.is("feed(1, ..) of 160", x.feed(1, 0x20L), FrameCounty.FULL);
        due.is("text of blanks", x.text(), -260);
        due.is("empty then", x.count(11), 0);
        // The lowest byte comes first, and only n of them come.
        due.is("feed(3, ..)", x.feed(3, Tape.bytes("prixxxxx", 0, 8)), 3);
        due.is("feed(8, ..)", x.feed(8, Tape.bytes("ce 1;hol", 0, 8)), 11);
        due.is("feed(4, ..)", x.feed(4, Tape.bytes("d 2;zzzz", 0, 8)), 15);
        due.is("the text", x.text(), 1);
        x.feed(1, -1L);
        due.is("a byte 255 is none of a text", x.text(), -100);
    }

    private static void promise13Text() {
        FrameCounty x = new FrameCounty();
        due.is("the empty tape", x.text(), -100);
        due.is("texts", x.count(10), 1);
        Tape.feed(x, "price 1 ; hold");
        due.is("ends too early", x.text(), -114);
        due.is("empty by a fault, too", x.count(11), 0);
        due.is("no text by a fault", x.count(10), 1);
        Tape.feed(x, "price 1;hold 2;");
        due.is("a text", x.text(), 1);
        due.is("empty by a text", x.count(11), 0);
        due.is("texts now", x.count(10), 2);
        due.is("the list as it was", x.count(12), 0);
        due.is("an old tape is gone", x.text(), -100);
        due.is("blanks and new lines", Tape.textOf(" \nprice\n10+ width;\n\nhold 1<words ; \n "), 1);
        due.is("as little as can be", Tape.textOf("price 0;hold 0;"), 1);
        due.is("no blanks behind a sign", Tape.textOf("price(kind)*3;hold not(paid)and-1=2;"), 1);
        due.is("all names", Tape.textOf("price kind+width+week+rent+words+paid;hold kind*width*week*rent*words*paid;"), 1);
        StringBuilder full = new StringBuilder("price 1");
        for (int i = 0; i < 72; i++) {
            full.append("+1");
        }
        full.append(";hold 0;");
        due.is("a text of 159 bytes", full.length(), 159);
        due.is("is a text", Tape.textOf(full.toString()), 1);
        due.is("a text of 160 bytes", Tape.textOf(full + "\n"), 1);
        due.is("160 bytes and a sign too much", Tape.textOf(full + ";"), -259);
    }

    private static void promise13Full() {
        FrameCounty x = new FrameCounty();
        for (int i = 1; i < 6; i++) {
            Tape.feed(x, "price " + i + ";hold 0;");
            due.is("text " + i, x.text(), i);
        }
        due.is("full, though the tape is empty", x.text(), FrameCounty.FULL);
        Tape.feed(x, "price");
        due.is("full, though the tape has a fault", x.text(), FrameCounty.FULL);
        due.is("the tape stays", x.count(11), 5);
        due.is("texts", x.count(10), 6);
        x.shop(0, 1);
        x.frame(0, 0, 10, 0);
        for (int i = 1; i < 6; i++) {
            x.force(i);
            due.is("text " + i + " says", x.says(0, 0), i);
        }
    }

    private static void fault(String text, int place) {
        due.is("text of '" + text.replace('\n', '/') + "'", Tape.textOf(text), -100 - place);
    }

    private static void promise13FaultsOfTokens() {
        fault("Price 1;hold 1;", 0);
        fault("price 1;hold 1;#", 15);
        fault("price 1>2;hold 1;", 7);
        fault("price 1,2;hold 1;", 7);
        fault("price\t1;hold 1;", 5);
        fault("price 1\r;hold 1;", 7);
        fault("price 1" + (char) 0 + ";hold 1;", 7);
        fault("price 1" + (char) 160 + ";hold 1;", 7);
        fault("price 12345;hold 1;", 6);
        fault("price 00001;hold 1;", 6);
        due.is("four digits", Tape.textOf("price 0001+9999;hold 1;"), 1);
        fault("price 1 + widt;hold 1;", 10);
        fault("price 1 + widthh;hold 1;", 10);
        fault("price kindwidth;hold 1;", 6);
        fault("price notkind;hold 1;", 6);
        fault("price 1;holds 1;", 8);
        fault("price 10width;hold 1;", 8);
        fault("price width10;hold 1;", 11);
        fault("price wiDth;hold 1;", 6);
        // Of two faults the first one is told.
        fault("price 1 2;hold 12345;", 8);
        fault("price 12345 2;hold ?;", 6);
    }

    private static void promise13FaultsOfGrammar() {
        fault("", 0);
        fault("   ", 3);
        fault("price", 5);
        fault("price ", 6);
        fault("price 1", 7);
        fault("price 1;", 8);
        fault("price 1; \n", 10);
        fault("price 1;hold", 12);
        fault("price 1;hold 1", 14);
        fault("price 1;hold 1 ", 15);
        fault("hold 1;price 1;", 0);
        fault("price 1;price 1;", 8);
        fault("price 1 hold 1;", 8);
        fault("price;hold 1;", 5);
        fault("price 1;hold;", 12);
        fault("price 1;;hold 1;", 8);
        fault("price 1;hold 1;;", 15);
        fault("price 1;hold 1; price 1;", 16);
        fault("price 1 + ;hold 1;", 10);
        fault("price + 1;hold 1;", 6);
        fault("price 1 + + 1;hold 1;", 10);
        fault("price 1 * * 1;hold 1;", 10);
        fault("price 1 + not 1;hold 1;", 10);
        fault("price 1 < not 1;hold 1;", 10);
        fault("price - not 1;hold 1;", 8);
        fault("price 1 not 1;hold 1;", 8);
        fault("price 1 < 2 < 3;hold 1;", 12);
        fault("price 1 = 2 < 3;hold 1;", 12);
        fault("price 1 < < 3;hold 1;", 10);
        fault("price or 1;hold 1;", 6);
        fault("price 1 or ;hold 1;", 11);
        fault("price 1 or or 1;hold 1;", 11);
        fault("price 1 and or 1;hold 1;", 12);
        fault("price ();hold 1;", 7);
        fault("price (1;hold 1;", 8);
        fault("price 1);hold 1;", 7);
        fault("price (1 2);hold 1;", 9);
        fault("price 1 (2);hold 1;", 8);
        fault("price (1 < 2 = 3);hold 1;", 13);
        fault("price hold;hold 1;", 6);
        due.is("a sign may stand ahead of a one", Tape.textOf("price 1 - -1 * -width;hold - 1 < - 2;"), 1);
        due.is("compared in brackets", Tape.textOf("price (1 < 2) = (3 < 4) and 1 < 2;hold not 1 = 2;"), 1);
    }

    private static void promise13FaultsOfDepth() {
        due.is("five ( open", Tape.textOf("price (((((1)))));hold ((((1)))) + (1);"), 1);
        fault("price ((((((1))))));hold 1;", 11);
        due.is("five - open", Tape.textOf("price -----1 - -----1 * -----1;hold 1;"), 1);
        fault("price ------1;hold 1;", 11);
        due.is("five - open behind a -", Tape.textOf("price 1------1;hold 1;"), 1);
        fault("price 1-------1;hold 1;", 13);
        due.is("five not open", Tape.textOf("price not not not not not 1;hold not not 1 and not not not not 1;"), 1);
        fault("price not not not not not not 1;hold 1;", 26);
        fault("price not not not not not -1;hold 1;", 26);
        fault("price not not not not not (1);hold 1;", 26);
        // A not is open till what it belongs to ends, with both sides of a = and all of its sums.
        fault("price not not not not 1 = (2 + (3));hold 1;", 31);
        due.is("one less", Tape.textOf("price not not not 1 = (2 + (3));hold 1;"), 1);
        fault("price not not not not not 1 + 2 * -3;hold 1;", 34);
        due.is("but not till an and", Tape.textOf("price not not not not not 1 and (((((2)))));hold 1;"), 1);
        due.is("nor till an or", Tape.textOf("price not not not not not 1 or -----2;hold 1;"), 1);
        fault("price (not (- (not 1)));hold 1;", 15);
        fault("price (not (- (- 1)));hold 1;", 15);
        fault("price (not (- ((1))));hold 1;", 15);
        due.is("five of all sorts open", Tape.textOf("price (not (- (1)));hold 1;"), 1);
        // A - is open till its one ends; what comes behind a * is not within it.
        due.is("- ends with its one", Tape.textOf("price - - - - (1) * (((((2)))));hold 1;"), 1);
        fault("price - - - - ((1));hold 1;", 15);
        fault("price ((((( not 1)))));hold 1;", 12);
        due.is("as far as both parts go", Tape.textOf("price (-(-(1)));hold not(not(not 1));"), 1);
    }

    private static void promise14Force() {
        FrameCounty x = new FrameCounty();
        due.is("force(1) of one", x.force(1), FrameCounty.BAD);
        due.is("force(0)", x.force(0), 0);
        Tape.feed(x, "price 7;hold 0;");
        x.text();
        due.is("force(1)", x.force(1), 0);
        due.is("the list", x.count(12), 1);
        due.is("force(1) again", x.force(1), 1);
        for (int wild : new int[] {Integer.MIN_VALUE, -1, 2, 6, Integer.MAX_VALUE}) {
            due.is("force(" + wild + ")", x.force(wild), FrameCounty.BAD);
        }
        due.is("the list as it was", x.count(12), 1);
        due.is("force(0) again", x.force(0), 1);
        due.is("the first list", x.count(12), 0);
    }

    private static void promise15Says() {
        FrameCounty x = new FrameCounty();
        due.is("says(0, 0) of none", x.says(0, 0), FrameCounty.NO);
        due.is("says(1, 0) of none", x.says(1, 0), FrameCounty.NO);
        x.shop(0, 1);
        x.frame(0, 0, 10, 0);
        x.frame(5, 0, 60, 9);
        x.person(0);
        due.is("price 10 + width", x.says(0, 0), 20);
        due.is("price 10 + width", x.says(0, 1), 70);
        due.is("hold 1 < words", x.says(1, 0), 0);
        x.raid(0, 11);
        x.word(0, 0, 0, 1);
        due.is("hold of one word", x.says(1, 0), 0);
        x.word(0, 0, 0, 1);
        due.is("hold of two words", x.says(1, 0), 1);
        for (int wild : new int[] {Integer.MIN_VALUE, -1, 2, Integer.MAX_VALUE}) {
            due.is("says(" + wild + ", 0)", x.says(wild, 0), FrameCounty.NO);
            due.is("says(0, " + wild + ")", x.says(0, wild), FrameCounty.NO);
            due.is("says(1, " + wild + ")", x.says(1, wild), FrameCounty.NO);
        }
        due.is("says(1, 1)", x.says(1, 1), FrameCounty.NO);
        due.is("the price of a broken frame", x.says(0, 0), 20);
    }

    private static void value(String e, int want) {
        FrameCounty x = new FrameCounty();
        x.shop(0, 1);
        x.frame(0, 0, 10, 0);
        x.person(0);
        Tape.feed(x, "price " + e + ";hold 5;");
        x.force(x.text());
        due.is("price " + e, x.says(0, 0), want);
        due.is("hold of it", x.says(1, 0), 5);
        FrameCounty y = new FrameCounty();
        y.person(0);
        Tape.feed(y, "price 5;hold " + e + ";");
        y.force(y.text());
        due.is("hold " + e, y.says(1, 0), want);
    }

    private static void promise15Values() {
        value("0007", 7);
        value("9999", 9999);
        value("2 + 3 * 4", 14);
        value("(2 + 3) * 4", 20);
        value("10 - 3 - 2", 5);
        value("10 - (3 - 2)", 9);
        value("10 - 3 + 2", 9);
        value("- 3 * 2 - - 4", -2);
        value("- (2 + 3)", -5);
        value("--5", 5);
        value("1 < 2", 1);
        value("2 < 1", 0);
        value("2 < 2", 0);
        value("-2 < -1", 1);
        value("2 = 2", 1);
        value("2 = 1 + 2", 0);
        value("1 + 1 = 2", 1);
        value("1 + 2 < 2 * 2", 1);
        value("7 and 9", 1);
        value("7 and 0", 0);
        value("0 and 7", 0);
        value("7 or 0", 1);
        value("0 or 7", 1);
        value("0 or 0", 0);
        value("1 or 1 and 0", 1);
        value("(1 or 1) and 0", 0);
        value("0 and 1 or 1", 1);
        value("not 0", 1);
        value("not 7", 0);
        value("not not 7", 1);
        value("not 1 = 2", 1);
        value("not 1 and 0", 0);
        value("not (1 and 0)", 1);
        value("not -1", 0);
        value("(not 0) + 5", 6);
        value("(7)", 7);
        value("9999*9999*9999", 9999 * 9999 * 9999);
        value("9999*9999*9999*9999", 9999 * 9999 * 9999 * 9999);
        value("8192*8192*32 < 0", 1);
        value("- (8192*8192*32)", Integer.MIN_VALUE);
        value("8192*8192*32 - 1", Integer.MAX_VALUE);
        value("8192*8192*64", 0);
        value("65*(2+((3-(4*(5-6))) and 1))", 65 * 3);
        value("1<2 or 0*(1+2*(1+2*(1+2*(1+2*3))))", 1);
    }

    private static void promise15Names() {
        FrameCounty x = new FrameCounty();
        x.shop(0, 1);
        x.frame(3, 0, 25, 8);
        x.frame(4, 0, 31, 9);
        x.person(0);
        x.raid(1, 11);
        x.word(0, 0, 0, 900);
        x.pass(20);
        Tape.feed(x, "price kind*1000+width*10+rent;hold kind+width+rent;");
        x.force(x.text());
        due.is("kind, width, rent that is paid of a cut", x.says(0, 0), 3 * 1000 + 250 + 10);
        due.is("kind, width, rent that is paid of a lace", x.says(0, 1), 4 * 1000 + 310 + 4);
        due.is("kind, width, rent of a person", x.says(1, 0), 0);
        Tape.feed(x, "price week*100+words+paid;hold week*100;");
        x.force(x.text());
        due.is("week, words, paid of a frame", x.says(0, 0), 200);
        due.is("week of a person", x.says(1, 0), 200);
        x.pass(1);
        due.is("the week of night 21", x.says(0, 0), 300);
        x.pass(6);
        due.is("the week of night 27", x.says(1, 0), 300);
    }

    private static void promise15NamesOfPersons() {
        FrameCounty x = new FrameCounty();
        x.shop(0, 1);
        x.frame(0, 0, 25, 8);
        x.person(0);
        x.person(1);
        x.raid(0, 11);
        x.word(0, 0, 0, 900);
        x.word(1, 0, 0, 31);
        x.word(2, 1, 0, 17);
        Tape.feed(x, "price 0;hold words*1000+paid;");
        x.force(x.text());
        due.is("two true words", x.says(1, 0), 2931);
        due.is("a false word", x.says(1, 1), 0);
        x.road(0, 1, 9);
        due.is("it isn't false any more", x.says(1, 1), 1017);
        x.pass(1);
        x.seen(0, 1, 0, 11);
        due.is("seen elsewhere: both are false", x.says(1, 0), 0);
    }
}

/** Terms, part 7, and promises 41 to 45: what each sentence says of its bounds. */
public final class HostBoundsTest {
    private static final Due due = new Due("HostBoundsTest");
    private static final int BAD = -2;
    private static final int MISSING = -11, OUTSIDE = -12, UNLIKE = -13, BELOW_ZERO = -14;

    public static void main(String[] args) {
        Tests.runAll(HostBoundsTest.class, due);
        due.end();
    }

    private static Run run() {
        return new Run(due);
    }

    /** A shop 0 that pays 50, and a sheet of a sort with these items. */
    private static Run row(int sheet, int sort, int... items) {
        return fill(run().then("shop(0, 50)"), sheet, sort, items);
    }

    private static Run fill(Run x, int sheet, int sort, int... items) {
        x.due("sheet(" + sheet + ", " + sort + ", " + items.length + ")", 1);
        for (int i = 0; i < items.length; i++) {
            x.due("cell(" + sheet + ", " + i + ", " + items[i] + ")", 1);
        }
        return x;
    }

    /** The items that stand there, told by what shop 0 pays by each; behind the last there is none. */
    private static Run stands(Run x, int sheet, int sort, int... items) {
        for (int i = 0; i < items.length; i++) {
            x.then("pays(0, 50)").due("paysRow(" + sheet + ", " + sort + ", " + i + ", 1)", 1).due("pays(0, 50)", items[i]);
        }
        return x.due("paysRow(" + sheet + ", " + sort + ", " + items.length + ", 1)", OUTSIDE);
    }

    // "a row of n": none, one, 39, 40, and one more
    static void promise41EachSize() {
        for (int sort = 0; sort < 3; sort++) {
            for (int n : new int[] {0, 1, 39, 40}) {
                Run x = run().due("sheet(2, " + sort + ", " + n + ")", 1).due("cell(2, " + n + ", 1)", OUTSIDE)
                    .due("cell(2, -1, 1)", OUTSIDE).due("copy(2, 0, 2, 0, " + n + ")", n)
                    .due("copy(2, 0, 2, 0, " + (n + 1) + ")", OUTSIDE);
                if (n > 0) {
                    x.due("cell(2, " + (n - 1) + ", 1)", 1);
                }
            }
            run().due("sheet(2, " + sort + ", 41)", BAD).due("cell(2, 0, 1)", MISSING).due("sheet(2, " + sort + ", -1)", BELOW_ZERO)
                .due("cell(2, 0, 1)", MISSING).due("sheet(2, " + sort + ", max)", BAD).due("sheet(2, " + sort + ", min)", BELOW_ZERO)
                .due("cell(2, 0, 1)", MISSING);
        }
    }

    // "SHEETS 0 .. 3", "sort 0 bytes, 1 shorts, 2 ints", "(sort -1 ..)"
    static void promise41EachSheetAndSort() {
        for (int sheet = -1; sheet <= 4; sheet++) {
            for (int sort = -2; sort <= 3; sort++) {
                boolean isOne = sheet >= 0 && sheet < 4 && sort >= -1 && sort < 3;
                Run x = run().due("sheet(" + sheet + ", " + sort + ", 5)", isOne ? 1 : BAD);
                for (int other = 0; other < 4; other++) {
                    x.due("cell(" + other + ", 4, 1)", isOne && other == sheet && sort >= 0 ? 1 : MISSING);
                }
            }
        }
        run().due("sheet(min, 0, 5)", BAD).due("sheet(max, 0, 5)", BAD).due("sheet(0, min, 5)", BAD).due("sheet(0, max, 5)", BAD);
    }

    // "(sort -1: n does not matter)"
    static void promise41MissingWithAnyNumber() {
        for (String n : new String[] {"0", "1", "40", "41", "-1", "min", "max"}) {
            run().then("sheet(1, 2, 3)").due("sheet(1, -1, " + n + ")", 1).due("cell(1, 0, 5)", MISSING)
                .due("sheet(1, -1, " + n + ")", 1).due("cell(1, 0, 5)", MISSING).due("sheet(4, -1, " + n + ")", BAD);
        }
    }

    // "all 0": anew, too, also where it was longer or shorter, or was missing between
    static void promise41AllZeroAnew() {
        stands(row(3, 1, 7, 8, 9).due("sheet(3, 1, 3)", 1), 3, 1, 0, 0, 0);
        stands(row(3, 0, 7, 8, 9).due("sheet(3, 2, 5)", 1), 3, 2, 0, 0, 0, 0, 0);
        stands(row(3, 2, 7, 8, 9).due("sheet(3, 2, 1)", 1).due("sheet(3, 2, 3)", 1), 3, 2, 0, 0, 0);
        stands(row(3, 2, 7, 8, 9).due("sheet(3, -1, 3)", 1).due("sheet(3, 0, 2)", 1), 3, 0, 0, 0);
    }

    static void promise41RefusedKeepsTheRow() {
        stands(row(0, 0, 7, 8, 9).due("sheet(0, 0, 41)", BAD).due("sheet(0, 0, -1)", BELOW_ZERO).due("sheet(0, 3, 1)", BAD)
            .due("sheet(0, -2, 1)", BAD).due("sheet(4, 0, 1)", BAD).due("sheet(-1, 0, 1)", BAD).due("sheet(0, 1, min)", BELOW_ZERO),
            0, 0, 7, 8, 9);
    }

    // "its lowest 8, 16 bits": 99 and 0 with all that may stand above them, and what is no number of PAYS then
    static void promise42LowestBits() {
        long[][] values = {
            {99, 99, 99, 99}, {0, 0, 0, 0}, {256 + 99, 99, -1, -1}, {-256 + 99, 99, -1, -1}, {65536 + 99, 99, 99, -1},
            {-65536 + 99, 99, 99, -1}, {256, 0, -1, -1}, {65536, 0, 0, -1}, {-65536, 0, 0, -1}, {127, -1, -1, -1},
            {128, -1, -1, -1}, {255, -1, -1, -1}, {-1, -1, -1, -1}, {100, -1, -1, -1}, {32767, -1, -1, -1}, {32768, 0, -1, -1},
            {32768 + 5, 5, -1, -1}, {65535, -1, -1, -1}, {Integer.MIN_VALUE, 0, 0, -1}, {Integer.MAX_VALUE, -1, -1, -1},
            {Integer.MIN_VALUE + 99, 99, 99, -1}, {Integer.MAX_VALUE - 255, 0, -1, -1}, {Integer.MAX_VALUE - 65535 + 98, 98, 98, -1},
        };
        for (long[] v : values) {
            for (int sort = 0; sort < 3; sort++) {
                run().then("shop(0, 50)", "sheet(1, " + sort + ", 1)").due("cell(1, 0, " + v[0] + ")", 1)
                    .due("paysRow(1, " + sort + ", 0, 1)", v[1 + sort] < 0 ? 0 : 1)
                    .due("pays(0, 1)", v[1 + sort] < 0 ? 50 : v[1 + sort]);
            }
        }
    }

    static void promise42FirstAndLastItem() {
        stands(row(2, 1, 1, 2, 3).due("cell(2, -1, 9)", OUTSIDE).due("cell(2, 3, 9)", OUTSIDE).due("cell(2, min, 9)", OUTSIDE)
            .due("cell(2, max, 9)", OUTSIDE).due("cell(4, 0, 9)", BAD).due("cell(-1, 0, 9)", BAD), 2, 1, 1, 2, 3);
        stands(row(2, 1, 1, 2, 3).due("cell(2, 0, 9)", 1).due("cell(2, 2, 8)", 1), 2, 1, 9, 2, 8);
    }

    private static Run two(int sort) {
        return fill(row(0, sort, 1, 2, 3, 4, 5), 1, sort, 11, 12, 13);
    }

    // "n numbers of a SHEET, from item i on, come to another one's item j on": at both ends, none, all, one too many
    static void promise43AtBothEnds() {
        for (int sort = 0; sort < 3; sort++) {
            stands(two(sort).due("copy(0, 0, 1, 0, 3)", 3), 1, sort, 1, 2, 3);
            stands(two(sort).due("copy(0, 2, 1, 0, 3)", 3), 1, sort, 3, 4, 5);
            stands(two(sort).due("copy(0, 4, 1, 2, 1)", 1), 1, sort, 11, 12, 5);
            stands(two(sort).due("copy(0, 0, 1, 0, 0)", 0).due("copy(0, 5, 1, 3, 0)", 0), 1, sort, 11, 12, 13);
            stands(two(sort).due("copy(1, 0, 0, 2, 3)", 3), 0, sort, 1, 2, 11, 12, 13);
            stands(two(sort).due("copy(0, 3, 1, 0, 3)", OUTSIDE).due("copy(0, 0, 1, 1, 3)", OUTSIDE).due("copy(0, 0, 1, 0, 4)", OUTSIDE)
                .due("copy(0, 6, 1, 0, 0)", OUTSIDE).due("copy(0, 0, 1, 4, 0)", OUTSIDE).due("copy(0, -1, 1, 0, 1)", OUTSIDE)
                .due("copy(0, 0, 1, -1, 1)", OUTSIDE).due("copy(0, -1, 1, 0, 0)", OUTSIDE).due("copy(0, 0, 1, -1, 0)", OUTSIDE)
                .due("copy(0, 0, 1, 0, -1)", OUTSIDE).due("copy(0, 1, 1, 1, -1)", OUTSIDE), 1, sort, 11, 12, 13);
        }
    }

    // Sums that wrap around: i and n, j and n are each an int, together they are more than one.
    static void promise43LeastAndGreatestNumbers() {
        Run x = two(2);
        String[] wild = {"min", "-2147483647", "-1", "2147483646", "max"};
        for (String i : wild) {
            for (String n : wild) {
                x.due("copy(0, " + i + ", 1, 0, " + n + ")", OUTSIDE).due("copy(0, 0, 1, " + i + ", " + n + ")", OUTSIDE);
            }
            x.due("copy(0, " + i + ", 1, 0, 1)", OUTSIDE).due("copy(0, 0, 1, " + i + ", 1)", OUTSIDE)
                .due("copy(0, " + i + ", 1, 0, 0)", OUTSIDE).due("copy(0, 0, 1, " + i + ", 0)", OUTSIDE)
                .due("copy(0, 1, 1, 1, " + i + ")", OUTSIDE).due("copy(0, 5, 1, 3, " + i + ")", OUTSIDE);
        }
        stands(x, 1, 2, 11, 12, 13);
    }

    // "(as they were)": within one sheet, upwards and downwards
    static void promise43WithinOneSheet() {
        for (int sort = 0; sort < 3; sort++) {
            stands(row(3, sort, 1, 2, 3, 4, 5).due("copy(3, 0, 3, 1, 4)", 4), 3, sort, 1, 1, 2, 3, 4);
            stands(row(3, sort, 1, 2, 3, 4, 5).due("copy(3, 1, 3, 0, 4)", 4), 3, sort, 2, 3, 4, 5, 5);
            stands(row(3, sort, 1, 2, 3, 4, 5).due("copy(3, 0, 3, 0, 5)", 5).due("copy(3, 0, 3, 4, 1)", 1), 3, sort, 1, 2, 3, 4, 1);
            stands(row(3, sort, 1, 2, 3, 4, 5).due("copy(3, 0, 3, 1, 5)", OUTSIDE).due("copy(3, 1, 3, 0, 5)", OUTSIDE)
                .due("copy(3, 5, 3, 5, 0)", 0), 3, sort, 1, 2, 3, 4, 5);
        }
    }

    static void promise43AllForty() {
        Run x = run().times(8, "shop(0, 50)").then("sheet(0, 2, 40)", "sheet(3, 2, 40)");
        for (int i = 0; i < 40; i++) {
            x.then("cell(0, " + i + ", " + (99 - i) + ")");
        }
        x.due("copy(0, 0, 3, 0, 41)", OUTSIDE).due("copy(0, 0, 3, 0, 40)", 40).due("copy(0, 1, 3, 0, 40)", OUTSIDE)
            .due("copy(0, 40, 3, 40, 0)", 0).due("copy(0, 41, 3, 40, 0)", OUTSIDE);
        for (int from = 0; from < 40; from += 8) {
            x.due("paysRow(3, 2, " + from + ", 8)", 8);
            for (int s = 0; s < 8; s++) {
                x.due("pays(" + s + ", 50)", 99 - from - s);
            }
        }
        x.due("paysRow(3, 2, 33, 8)", OUTSIDE).due("paysRow(3, 2, 32, 8)", 8);
    }

    // "-13: they are of unlike sorts", each two of them; of like ones that are missing -11
    static void promise43EachTwoSorts() {
        for (int a = -1; a < 3; a++) {
            for (int b = -1; b < 3; b++) {
                run().then("sheet(0, " + a + ", 2)", "sheet(3, " + b + ", 2)")
                    .due("copy(0, 0, 3, 0, 2)", a < 0 || b < 0 ? MISSING : a == b ? 2 : UNLIKE)
                    .due("copy(0, 0, 3, 0, 3)", a < 0 || b < 0 ? MISSING : a == b ? OUTSIDE : UNLIKE)
                    .due("copy(0, 0, 3, 0, -1)", a < 0 || b < 0 ? MISSING : a == b ? OUTSIDE : UNLIKE)
                    .due("copy(0, 0, 4, 0, 1)", BAD).due("copy(4, 0, 3, 0, 1)", BAD).due("copy(-1, 0, 0, 0, 0)", BAD)
                    .due("copy(0, 0, -1, 0, 0)", BAD);
            }
        }
    }

    private static Run shops(int n) {
        Run x = run();
        for (int s = 0; s < n; s++) {
            x.then("shop(0, " + (50 + s) + ")");
        }
        return x;
    }

    // "one that is not 0 .. 99 ... is left out": 0 and 99 are told, -1 and 100 not
    static void promise44LeastAndMostPays() {
        for (int sort = 0; sort < 3; sort++) {
            fill(shops(8), 1, sort, 0, 99, -1, 100, 1, 98, -100, 127).due("paysRow(1, " + sort + ", 0, 8)", 4).due("pays(0, 5)", 0)
                .due("pays(1, 5)", 99).due("pays(2, 5)", 52).due("pays(3, 5)", 53).due("pays(4, 5)", 1).due("pays(5, 5)", 98)
                .due("pays(6, 5)", 56).due("pays(7, 5)", 57);
        }
        fill(shops(2), 1, 2, Integer.MIN_VALUE, Integer.MAX_VALUE).due("paysRow(1, 2, 0, 2)", 0).due("pays(0, 5)", 50)
            .due("pays(1, 5)", 51);
    }

    // "or of no SHOP": with none to eight shops eight numbers
    static void promise44EachNumberOfShops() {
        for (int shops = 0; shops <= 8; shops++) {
            Run x = fill(shops(shops), 2, 0, 1, 2, 3, 4, 5, 6, 7, 8);
            x.due("paysRow(2, 0, 0, 8)", shops).due("count(1)", shops);
            for (int s = 0; s < 8; s++) {
                x.due("pays(" + s + ", 5)", s < shops ? s + 1 : BAD);
            }
        }
    }

    // "n of them (0 .. 8)"
    static void promise44EachNumberOfThem() {
        for (int n = -1; n <= 9; n++) {
            Run x = fill(shops(8), 2, 1, 1, 2, 3, 4, 5, 6, 7, 8, 9);
            x.due("paysRow(2, 1, 1, " + n + ")", n < 0 || n > 8 ? BAD : n);
            for (int s = 0; s < 8; s++) {
                x.due("pays(" + s + ", 5)", n >= 0 && n <= 8 && s < n ? s + 2 : 50 + s);
            }
            x.due("paysRow(2, 1, 0, min)", BAD).due("paysRow(2, 1, 0, max)", BAD);
        }
    }

    // "-12: what stood ahead was told": from each place of a row of 5, as many as there are and one more
    static void promise44WhatStoodAhead() {
        for (int from = -2; from <= 6; from++) {
            for (int n = 0; n <= 8; n++) {
                Run x = fill(shops(8), 0, 2, 1, 2, 3, 4, 5);
                boolean isWithin = n == 0 || from >= 0 && from + n <= 5;
                x.due("paysRow(0, 2, " + from + ", " + n + ")", isWithin ? n : OUTSIDE);
                for (int s = 0; s < 8; s++) {
                    boolean isTold = from >= 0 && s < n && from + s < 5;
                    x.due("pays(" + s + ", 5)", isTold ? from + s + 1 : 50 + s);
                }
            }
        }
    }

    // Outside is outside, though there is no SHOP for what would stand there.
    static void promise44OutsideWithoutAShop() {
        for (int shops = 0; shops < 4; shops++) {
            Run x = fill(shops(shops), 0, 1, 1, 2, 3).due("paysRow(0, 1, 0, 4)", OUTSIDE).due("paysRow(0, 1, 0, 8)", OUTSIDE)
                .due("paysRow(0, 1, 3, 1)", OUTSIDE).due("paysRow(0, 1, 0, 3)", shops);
            for (int s = 0; s < shops; s++) {
                x.due("pays(" + s + ", 5)", s + 1);
            }
        }
    }

    static void promise44FromFarOutside() {
        Run x = fill(shops(8), 0, 2, 1, 2, 3);
        for (String from : new String[] {"min", "-2147483647", "-9", "-8", "-1", "3", "2147483640", "2147483646", "max"}) {
            x.due("paysRow(0, 2, " + from + ", 8)", OUTSIDE).due("paysRow(0, 2, " + from + ", 1)", OUTSIDE)
                .due("paysRow(0, 2, " + from + ", 0)", 0);
        }
        for (int s = 0; s < 8; s++) {
            x.due("pays(" + s + ", 5)", 50 + s);
        }
    }

    // "BAD: no such SHEET, sort, n; -13; -11; -12": each sheet taken for each sort
    static void promise44EachSheetForEachSort() {
        for (int is = -1; is < 3; is++) {
            for (int as = -1; as <= 3; as++) {
                shops(1).then("sheet(3, " + is + ", 1)")
                    .due("paysRow(3, " + as + ", 0, 1)", as < 0 || as > 2 ? BAD : is < 0 ? MISSING : is == as ? 1 : UNLIKE)
                    .due("paysRow(3, " + as + ", 1, 1)", as < 0 || as > 2 ? BAD : is < 0 ? MISSING : is == as ? OUTSIDE : UNLIKE)
                    .due("paysRow(3, " + as + ", 0, 0)", as < 0 || as > 2 ? BAD : is < 0 ? MISSING : is == as ? 0 : UNLIKE)
                    .due("paysRow(4, 0, 0, 1)", BAD).due("paysRow(-1, 0, 0, 1)", BAD).due("pays(0, 5)", is >= 0 && is == as ? 0 : 50);
            }
        }
    }

    // "A FRAME taken for one of KIND k (0 .. 5), or one under that one (also by others between): its WIDTH"
    static void promise45EachKindForEach() {
        String[] above = {"0", "01", "02", "013", "024", "015"};
        for (int kind = 0; kind < 6; kind++) {
            for (int width : new int[] {10, 60}) {
                Run x = run().then("shop(0, 0)", "frame(" + kind + ", 0, " + width + ", 0)");
                for (int k = -1; k <= 6; k++) {
                    boolean is = k >= 0 && k < 6 && above[kind].indexOf('0' + k) >= 0;
                    x.due("taken(0, " + k + ")", k < 0 || k > 5 ? BAD : is ? width : UNLIKE)
                        .due("taken(1, " + k + ")", k < 0 || k > 5 ? BAD : MISSING);
                }
                x.due("taken(0, min)", BAD).due("taken(0, max)", BAD).due("taken(min, 0)", MISSING).due("taken(max, 0)", MISSING);
            }
        }
    }

    // The first frame, the twentieth, and beside them; however it is
    static void promise45FirstAndLastFrame() {
        Run x = run().then("shop(0, 0)");
        for (int f = 0; f < 20; f++) {
            x.due("taken(" + f + ", 0)", MISSING).then("frame(3, 0, " + (20 + f) + ", 0)").due("taken(" + f + ", 0)", 20 + f);
        }
        x.due("taken(20, 0)", MISSING).due("taken(-1, 0)", MISSING).then("raid(19, 0)", "mend(0, 2)").due("taken(19, 3)", 39)
            .due("taken(0, 1)", 20).due("taken(19, 5)", UNLIKE).due("taken(0, 2)", UNLIKE);
    }
}

/** Promises 41 to 45: the host's sheets and kinds. */
public final class HostTest {
    private static final Due due = new Due("HostTest");
    private static final int[] WILD = {Integer.MIN_VALUE, -1, Integer.MAX_VALUE};

    public static void main(String[] args) {
        promise41Sheet();
        promise41Missing();
        promise42Cell();
        promise42Sorts();
        promise43Copy();
        promise43CopyWithin();
        promise43Refusals();
        promise44PaysRow();
        promise44Outside();
        promise44Refusals();
        promise45Taken();
        due.end();
    }

    /** Item i of a sheet of a sort, as the pays of shop 0 tell it; 200, if it is none that can be paid. */
    private static int item(FrameCounty x, int sheet, int sort, int i) {
        x.pays(0, 0);
        int told = x.paysRow(sheet, sort, i, 1);
        return told == 1 ? x.pays(0, 0) : told == 0 ? 200 : told;
    }

    private static void promise41Sheet() {
        FrameCounty x = new FrameCounty();
        x.shop(0, 0);
        due.is("sheet(4, 0, 1)", x.sheet(4, 0, 1), FrameCounty.BAD);
        due.is("sheet(0, 3, 1)", x.sheet(0, 3, 1), FrameCounty.BAD);
        due.is("sheet(0, -2, 1)", x.sheet(0, -2, 1), FrameCounty.BAD);
        due.is("sheet(0, 0, 41)", x.sheet(0, 0, 41), FrameCounty.BAD);
        due.is("sheet(0, 0, max)", x.sheet(0, 0, Integer.MAX_VALUE), FrameCounty.BAD);
        due.is("sheet(0, 0, -1)", x.sheet(0, 0, -1), -14);
        due.is("sheet(0, 2, min)", x.sheet(0, 2, Integer.MIN_VALUE), -14);
        due.is("sheet(0, 3, -1)", x.sheet(0, 3, -1), FrameCounty.BAD);
        due.is("sheet(4, 0, -1)", x.sheet(4, 0, -1), FrameCounty.BAD);
        due.is("sheet(4, -1, 0)", x.sheet(4, -1, 0), FrameCounty.BAD);
        for (int wild : WILD) {
            due.is("sheet(" + wild + ", 0, 1)", x.sheet(wild, 0, 1), FrameCounty.BAD);
        }
        due.is("sort max", x.sheet(0, Integer.MAX_VALUE, 1), FrameCounty.BAD);
        due.is("sort min", x.sheet(0, Integer.MIN_VALUE, 1), FrameCounty.BAD);
        due.is("still missing", x.cell(0, 0, 1), -11);
        for (int sort = 0; sort < 3; sort++) {
            due.is("sheet(" + sort + ", .., 40)", x.sheet(sort, sort, 40), 1);
            due.is("item 39 is 0", item(x, sort, sort, 39), 0);
            due.is("item 40", item(x, sort, sort, 40), -12);
            x.cell(sort, 39, 7);
            due.is("item 39 is 7", item(x, sort, sort, 39), 7);
            due.is("refused", x.sheet(sort, sort, -1), -14);
            due.is("refused, too", x.sheet(sort, 0, 41), FrameCounty.BAD);
            due.is("item 39 as it was", item(x, sort, sort, 39), 7);
            due.is("anew", x.sheet(sort, sort, 40), 1);
            due.is("all 0 anew", item(x, sort, sort, 39), 0);
            due.is("of another sort", x.sheet(sort, (sort + 1) % 3, 2), 1);
            due.is("no more of the old sort", item(x, sort, sort, 0), -13);
            due.is("item 1", item(x, sort, (sort + 1) % 3, 1), 0);
            due.is("item 2", item(x, sort, (sort + 1) % 3, 2), -12);
        }
        due.is("a row of none", x.sheet(3, 0, 0), 1);
        due.is("has no item", x.cell(3, 0, 1), -12);
        due.is("but isn't missing", x.paysRow(3, 0, 0, 0), 0);
    }

    private static void promise41Missing() {
        FrameCounty x = new FrameCounty();
        x.sheet(2, 1, 5);
        due.is("there", x.cell(2, 4, 1), 1);
        due.is("sheet(2, -1, max)", x.sheet(2, -1, Integer.MAX_VALUE), 1);
        due.is("missing", x.cell(2, 4, 1), -11);
        due.is("missing, outside, too", x.cell(2, 5, 1), -11);
        due.is("sheet(2, -1, -1)", x.sheet(2, -1, -1), 1);
        due.is("sheet(0, -1, 0) of a missing one", x.sheet(0, -1, 0), 1);
    }

    private static void promise42Cell() {
        FrameCounty x = new FrameCounty();
        x.shop(0, 0);
        due.is("cell of a missing one", x.cell(1, 0, 5), -11);
        due.is("cell(4, 0, 5)", x.cell(4, 0, 5), FrameCounty.BAD);
        for (int wild : WILD) {
            due.is("cell(" + wild + ", 0, 5)", x.cell(wild, 0, 5), FrameCounty.BAD);
        }
        x.sheet(1, 2, 3);
        due.is("cell(1, 0, 5)", x.cell(1, 0, 5), 1);
        due.is("cell(1, 2, 6)", x.cell(1, 2, 6), 1);
        due.is("cell(1, 3, 6)", x.cell(1, 3, 6), -12);
        for (int wild : WILD) {
            due.is("cell(1, " + wild + ", 5)", x.cell(1, wild, 5), -12);
        }
        due.is("item 0", item(x, 1, 2, 0), 5);
        due.is("item 1", item(x, 1, 2, 1), 0);
        due.is("item 2", item(x, 1, 2, 2), 6);
        x.cell(1, 2, 7);
        due.is("item 2 anew", item(x, 1, 2, 2), 7);
    }

    private static void promise42Sorts() {
        FrameCounty x = new FrameCounty();
        x.shop(0, 0);
        int[] values = {99, 100, -1, 256 + 9, 65536 + 9, 65536 * 3 + 256 * 2 + 44, Integer.MIN_VALUE, 0xffffff00, 0x12340063};
        int[][] want = {
            {99, 200, 200, 9, 9, 44, 0, 0, 99},
            {99, 200, 200, 200, 9, 200, 0, 200, 99},
            {99, 200, 200, 200, 200, 200, 200, 200, 200},
        };
        for (int sort = 0; sort < 3; sort++) {
            x.sheet(sort, sort, values.length);
            for (int i = 0; i < values.length; i++) {
                x.cell(sort, i, values[i]);
                due.is(values[i] + " of sort " + sort, item(x, sort, sort, i), want[sort][i]);
            }
        }
    }

    private static void fill(FrameCounty x, int sheet, int sort, int... items) {
        x.sheet(sheet, sort, items.length);
        for (int i = 0; i < items.length; i++) {
            x.cell(sheet, i, items[i]);
        }
    }

    private static void stands(FrameCounty x, int sheet, int sort, int... items) {
        for (int i = 0; i < items.length; i++) {
            due.is("item " + i + " of sheet " + sheet, item(x, sheet, sort, i), items[i]);
        }
        due.is("item behind the last of sheet " + sheet, item(x, sheet, sort, items.length), -12);
    }

    private static void promise43Copy() {
        FrameCounty x = new FrameCounty();
        x.shop(0, 0);
        for (int sort = 0; sort < 3; sort++) {
            fill(x, 0, sort, 1, 2, 3, 4, 5);
            fill(x, 1, sort, 11, 12, 13);
            due.is("copy(0, 1, 1, 0, 2)", x.copy(0, 1, 1, 0, 2), 2);
            stands(x, 0, sort, 1, 2, 3, 4, 5);
            stands(x, 1, sort, 2, 3, 13);
            due.is("copy(1, 0, 0, 2, 3)", x.copy(1, 0, 0, 2, 3), 3);
            stands(x, 0, sort, 1, 2, 2, 3, 13);
            due.is("copy of none, behind the last", x.copy(0, 5, 1, 3, 0), 0);
            due.is("copy of all", x.copy(1, 0, 0, 0, 3), 3);
            stands(x, 0, sort, 2, 3, 13, 3, 13);
        }
    }

    private static void promise43CopyWithin() {
        FrameCounty x = new FrameCounty();
        x.shop(0, 0);
        fill(x, 3, 1, 1, 2, 3, 4, 5);
        due.is("copy(3, 0, 3, 1, 4)", x.copy(3, 0, 3, 1, 4), 4);
        stands(x, 3, 1, 1, 1, 2, 3, 4);
        due.is("copy(3, 2, 3, 0, 3)", x.copy(3, 2, 3, 0, 3), 3);
        stands(x, 3, 1, 2, 3, 4, 3, 4);
    }

    private static void promise43Refusals() {
        FrameCounty x = new FrameCounty();
        x.shop(0, 0);
        fill(x, 0, 0, 1, 2, 3);
        fill(x, 1, 0, 11, 12);
        fill(x, 2, 1, 21, 22, 23);
        due.is("copy(4, ..)", x.copy(4, 0, 1, 0, 1), FrameCounty.BAD);
        due.is("copy(.., 4, ..)", x.copy(1, 0, 4, 0, 1), FrameCounty.BAD);
        due.is("bad ahead of missing", x.copy(3, 0, -1, 0, 1), FrameCounty.BAD);
        due.is("missing", x.copy(3, 0, 0, 0, 1), -11);
        due.is("the other missing", x.copy(0, 0, 3, 0, 1), -11);
        due.is("both missing, outside", x.copy(3, -1, 3, 0, -1), -11);
        due.is("unlike", x.copy(0, 0, 2, 0, 1), -13);
        due.is("unlike, outside, too", x.copy(2, 0, 0, 0, -1), -13);
        due.is("unlike, of none", x.copy(2, 0, 0, 0, 0), -13);
        due.is("n -1", x.copy(0, 0, 1, 0, -1), -12);
        due.is("too many of the first", x.copy(1, 0, 0, 0, 3), -12);
        due.is("too many of the other", x.copy(0, 0, 1, 0, 3), -12);
        due.is("none, too far", x.copy(0, 4, 1, 0, 0), -12);
        due.is("none, too far in the other", x.copy(0, 0, 1, 3, 0), -12);
        for (int wild : WILD) {
            due.is("copy(" + wild + ", ..)", x.copy(wild, 0, 1, 0, 1), FrameCounty.BAD);
            due.is("copy(.., " + wild + ", ..)", x.copy(0, 0, wild, 0, 1), FrameCounty.BAD);
            due.is("i " + wild, x.copy(0, wild, 1, 0, 1), -12);
            due.is("j " + wild, x.copy(0, 0, 1, wild, 1), -12);
            due.is("n " + wild, x.copy(0, 0, 1, 0, wild), -12);
            due.is("i, n " + wild, x.copy(0, wild, 1, 0, wild), -12);
            due.is("i " + wild + ", n 0", x.copy(0, wild, 1, 0, 0), -12);
        }
        due.is("i 1, n max", x.copy(0, 1, 1, 0, Integer.MAX_VALUE), -12);
        due.is("i max, n max", x.copy(0, Integer.MAX_VALUE, 1, 0, Integer.MAX_VALUE), -12);
        stands(x, 0, 0, 1, 2, 3);
        stands(x, 1, 0, 11, 12);
        stands(x, 2, 1, 21, 22, 23);
    }

    private static FrameCounty withShops(int n) {
        FrameCounty x = new FrameCounty();
        for (int i = 0; i < n; i++) {
            x.shop(0, 50 + i);
        }
        return x;
    }

    private static void promise44PaysRow() {
        FrameCounty x = withShops(8);
        fill(x, 0, 2, 0, 99, 100, -1, 7, 8, 9, 10, 11);
        due.is("paysRow(0, 2, 0, 8)", x.paysRow(0, 2, 0, 8), 6);
        int[] want = {0, 99, 52, 53, 7, 8, 9, 10};
        for (int s = 0; s < 8; s++) {
            due.is("pays of shop " + s, x.pays(s, 1), want[s]);
        }
        due.is("paysRow(0, 2, 7, 2)", x.paysRow(0, 2, 7, 2), 2);
        due.is("shop 0", x.pays(0, 1), 10);
        due.is("shop 1", x.pays(1, 1), 11);
        due.is("shop 2", x.pays(2, 1), 1);
        due.is("paysRow of none", x.paysRow(0, 2, 0, 0), 0);
        due.is("paysRow of none, from far outside", x.paysRow(0, 2, 1000, 0), 0);
        FrameCounty few = withShops(2);
        fill(few, 1, 1, 1, 2, 3, 4);
        due.is("more numbers than shops", few.paysRow(1, 1, 0, 4), 2);
        due.is("shop 0 of two", few.pays(0, 0), 1);
        due.is("shop 1 of two", few.pays(1, 0), 2);
        due.is("no shop at all", otherWithout().paysRow(1, 1, 0, 4), 0);
    }

    private static FrameCounty otherWithout() {
        FrameCounty x = new FrameCounty();
        fill(x, 1, 1, 1, 2, 3, 4);
        return x;
    }

    private static void promise44Outside() {
        FrameCounty x = withShops(8);
        fill(x, 0, 0, 1, 2, 3);
        due.is("paysRow(0, 0, 1, 3)", x.paysRow(0, 0, 1, 3), -12);
        int[] want = {2, 3, 52, 53, 54, 55, 56, 57};
        for (int s = 0; s < 8; s++) {
            due.is("what stood ahead was told: " + s, x.pays(s, 50 + s), want[s]);
        }
        due.is("from -1", x.paysRow(0, 0, -1, 3), -12);
        due.is("from 3", x.paysRow(0, 0, 3, 1), -12);
        due.is("from max", x.paysRow(0, 0, Integer.MAX_VALUE, 8), -12);
        due.is("from min", x.paysRow(0, 0, Integer.MIN_VALUE, 8), -12);
        due.is("from -8", x.paysRow(0, 0, -8, 8), -12);
        for (int s = 0; s < 8; s++) {
            due.is("nothing was told: " + s, x.pays(s, 0), 50 + s);
        }
        FrameCounty few = withShops(1);
        fill(few, 0, 0, 1, 2, 3);
        due.is("outside, though of no shop", few.paysRow(0, 0, 0, 4), -12);
        due.is("shop 0", few.pays(0, 0), 1);
    }

    private static void promise44Refusals() {
        FrameCounty x = withShops(2);
        fill(x, 0, 0, 1, 2, 3);
        due.is("sheet 4", x.paysRow(4, 0, 0, 1), FrameCounty.BAD);
        due.is("sort 3", x.paysRow(0, 3, 0, 1), FrameCounty.BAD);
        due.is("sort -1", x.paysRow(0, -1, 0, 1), FrameCounty.BAD);
        due.is("n 9", x.paysRow(0, 0, 0, 9), FrameCounty.BAD);
        due.is("n -1", x.paysRow(0, 0, 0, -1), FrameCounty.BAD);
        due.is("n 9 of a missing one", x.paysRow(1, 0, 0, 9), FrameCounty.BAD);
        due.is("sort -1 of a missing one", x.paysRow(1, -1, 0, 1), FrameCounty.BAD);
        for (int wild : WILD) {
            due.is("sheet " + wild, x.paysRow(wild, 0, 0, 1), FrameCounty.BAD);
            due.is("sort " + wild, x.paysRow(0, wild, 0, 1), FrameCounty.BAD);
            due.is("n " + wild, x.paysRow(0, 0, 0, wild), FrameCounty.BAD);
        }
        due.is("missing", x.paysRow(1, 0, 0, 1), -11);
        due.is("missing, of none", x.paysRow(1, 2, 0, 0), -11);
        due.is("missing, outside", x.paysRow(1, 2, -1, 1), -11);
        due.is("of another sort", x.paysRow(0, 2, 0, 1), -13);
        due.is("of another sort, of none", x.paysRow(0, 1, 0, 0), -13);
        due.is("of another sort, outside", x.paysRow(0, 1, 7, 1), -13);
        x.sheet(0, -1, 0);
        due.is("missing again", x.paysRow(0, 1, 0, 1), -11);
        due.is("shop 0 as it was", x.pays(0, 0), 50);
        due.is("shop 1 as it was", x.pays(1, 0), 51);
    }

    private static void promise45Taken() {
        FrameCounty x = new FrameCounty();
        due.is("taken(0, 0) of none", x.taken(0, 0), -11);
        x.shop(0, 0);
        for (int kind = 0; kind < 6; kind++) {
            x.frame(kind, 0, 10 + kind, 0);
        }
        String[] above = {"0", "01", "02", "013", "024", "015"};
        for (int kind = 0; kind < 6; kind++) {
            for (int k = 0; k < 6; k++) {
                boolean is = above[kind].indexOf('0' + k) >= 0;
                due.is("taken(" + kind + ", " + k + ")", x.taken(kind, k), is ? 10 + kind : -13);
            }
        }
        for (int wild : new int[] {Integer.MIN_VALUE, -1, 6, Integer.MAX_VALUE}) {
            due.is("taken(0, " + wild + ")", x.taken(0, wild), FrameCounty.BAD);
            due.is("taken(" + wild + ", 0)", x.taken(wild, 0), -11);
            due.is("taken(" + wild + ", " + wild + ")", x.taken(wild, wild), FrameCounty.BAD);
        }
        x.raid(5, 0);
        due.is("a broken one", x.taken(5, 1), 15);
    }
}

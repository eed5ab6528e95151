import java.io.IOException;

/** The edges that the document names, sentence by sentence: rows, sheets, shelves, acts, what is kept. */
public final class EdgesOfHostTest {
    public static void main(String[] args) throws IOException {
        Edges.begin(args);
        prove();
        row();
        alterRow();
        reader();
        lastRow();
        judge();
        sheets();
        sheet();
        write();
        item();
        climbs();
        climbsOutside();
        shelves();
        shelf();
        byItsNumber();
        taken();
        bodies();
        wrapping();
        parted();
        act();
        trace();
        many();
        keep();
        again();
        Edges.end("EdgesOfHostTest");
    }

    // ---- rows

    private static void prove() {
        Edges.says("ROWS of a BOUGH: (BOUGH, BEARS, HOLDS NOW), from it on down to one that grows on the trunk.");
        OakCourt x = Edges.chain(9, 100);
        x.person(7, 0);
        x.sit(0, 4);
        Edges.is("of the ninth", x.prove(8), 9);
        for (int k = 0; k < 9; k++) {
            Edges.is("row " + k, x.row(k, 0) * 10000 + x.row(k, 1) * 1000 + x.row(k, 2), (8 - k) * 10000 + (k < 4 ? 0 : 7000) + 100);
        }
        Edges.is("of the first", x.prove(0), 1);
        Edges.is("nothing is left of the nine", x.row(1, 0), Due.NO);
        Edges.says("ROWS of a BOUGH: how many. BAD.");
        for (int b : new int[] {-1, -9, 5, 9}) Edges.leaves("bough " + b, y -> y.prove(b), Due.BAD);
        for (int b : Edges.OUTSIDE) Edges.leaves("bough " + b, y -> y.prove(b), Due.BAD);
        Edges.is("no BOUGHS", new OakCourt().prove(0), Due.BAD);
        OakCourt z = Edges.rich();
        Edges.is("of a BROKEN one", z.prove(2), 3);
        Edges.is("right", z.judge(), 0);
    }

    private static void row() {
        Edges.says("Of ROW k: what = 0 BOUGH, 1 BEARS, 2 HOLDS NOW. -9: there is none such, another what.");
        Edges.is("no ROWS", new OakCourt().row(0, 0), Due.NO);
        Edges.leaves("row(1, 2)", x -> x.row(1, 2), 445);
        for (int k : new int[] {-1, 2, 8, 9}) Edges.leaves("row " + k, x -> x.row(k, 0), Due.NO);
        for (int what : new int[] {-1, 3}) Edges.leaves("what " + what, x -> x.row(0, what), Due.NO);
        for (int v : Edges.OUTSIDE) {
            Edges.leaves("row " + v, x -> x.row(v, 0), Due.NO);
            Edges.leaves("what " + v, x -> x.row(0, v), Due.NO);
        }
    }

    private static void alterRow() {
        Edges.says("It becomes v: what it was. -9 likewise.");
        Edges.is("no ROWS", new OakCourt().alterRow(0, 0, 1), Due.NO);
        OakCourt x = Edges.rich();
        for (int what = 0; what < 3; what++) {
            int was = x.row(0, what);
            for (int v : new int[] {Edges.MIN, -9, 0, Edges.MAX}) {
                Edges.is("any number", x.alterRow(0, what, v), was);
                was = v;
            }
            Edges.is("then", x.row(0, what), Edges.MAX);
        }
        for (int k : new int[] {-1, 2, 8, 9}) Edges.leaves("row " + k, y -> y.alterRow(k, 0, 1), Due.NO);
        for (int what : new int[] {-1, 3}) Edges.leaves("what " + what, y -> y.alterRow(0, what, 1), Due.NO);
        for (int v : Edges.OUTSIDE) {
            Edges.leaves("row " + v, y -> y.alterRow(v, 0, 1), Due.NO);
            Edges.leaves("what " + v, y -> y.alterRow(0, v, 1), Due.NO);
        }
    }

    private static void set(OakCourt x, int k, int... cells) {
        for (int what = 0; what < 3; what++) x.alterRow(k, what, cells[what]);
    }

    private static void reader() {
        Edges.says("(the first any one, others that on which the one of the ROW ahead grows), what that BEARS and HOLDS NOW");
        OakCourt x = Edges.chain(4, 100);
        x.change(3, 3, 101);
        x.prove(3);
        for (int k = 0; k < 4; k++) {
            for (int what = 0; what < 3; what++) {
                int right = x.row(k, what);
                for (int v : new int[] {right - 1, right + 1, -9, Edges.MIN, Edges.MAX}) {
                    x.alterRow(k, what, v);
                    Edges.is("row " + k + ", " + what + " is " + v, x.judge(), k + 1);
                }
                x.alterRow(k, what, right);
            }
        }
        Edges.is("right again", x.judge(), 0);
        x.bough(1, 0, 1, 90);
        x.prove(4);
        Edges.is("of 4, on 0", x.many(4), 2);
        set(x, 0, 1, 0, 100);
        Edges.is("the first any one", x.judge(), 0);
        set(x, 0, 2, 0, 100);
        Edges.is("which doesn't grow on 0", x.judge(), 2);
        set(x, 0, 5, 0, 0);
        Edges.is("none there is", x.judge(), 1);
    }

    private static void lastRow() {
        Edges.says("the last one's grows on the trunk (else the last ROW isn't right).");
        OakCourt x = Edges.chain(3, 100);
        x.prove(0);
        set(x, 0, 1, 0, 100);
        Edges.is("the only one is on 0", x.judge(), 1);
        x.prove(1);
        set(x, 0, 2, 0, 100);
        set(x, 1, 1, 0, 100);
        Edges.is("the last is on 0", x.judge(), 2);
        set(x, 0, 0, 0, 100);
        set(x, 1, 0, 0, 100);
        Edges.is("one behind the trunk", x.judge(), 2);
        set(x, 1, -9, 0, 0);
        Edges.is("-9 is no BOUGH", x.judge(), 2);
    }

    private static void judge() {
        Edges.says("THE READER takes ROWS as such: 0 all is right; else the first ROW that isn't, and 1 more.");
        Edges.leaves("of the second", x -> x.judge(), 2);
        OakCourt x = Edges.chain(9, 100);
        Edges.is("no ROWS", x.judge(), 0);
        x.prove(8);
        Edges.is("nine", x.judge(), 0);
        for (int k = 8; k >= 0; k--) {
            x.alterRow(k, 1, 1);
            Edges.is("from " + k + " on", x.judge(), k + 1);
        }
        x.prove(8);
        x.person(1, 0);
        x.sit(0, 3);
        Edges.is("what is borne now", x.judge(), 6);
        x.down(0);
        x.weather(1, 1);
        Edges.is("in WIND", x.judge(), 1);
    }

    // ---- sheets

    private static void sheets() {
        Edges.says("SHEETS 0 to 3 are rows of bytes (sort 0), shorts (1), ints (2), longs (3) or booleans (4), 40 at most,"
            + " or missing (at first).");
        for (int s = 0; s < 4; s++) {
            OakCourt x = new OakCourt();
            for (int sort = 0; sort < 5; sort++) Edges.is("missing at first", x.item(s, sort, 0), -11);
            for (int sort = 0; sort < 5; sort++) {
                Edges.is("40 of sort " + sort, x.sheet(s, sort, 40), 1);
                Edges.is("the last", x.write(s, 39, 1), 1);
                Edges.is("is there", x.item(s, sort, 39), 1);
                Edges.is("one behind it", x.write(s, 40, 1), -12);
                Edges.is("isn't there", x.item(s, sort, 40), -12);
                Edges.is("the first", x.item(s, sort, 0), 0);
            }
        }
    }

    private static void sheet() {
        Edges.says("A SHEET becomes a row of n of a sort, all 0, or missing (sort -1; n counts nothing then): 1."
            + " BAD: no such SHEET, sort, n above 40; -14.");
        OakCourt x = Edges.rich();
        Edges.is("of none", x.sheet(0, 0, 0), 1);
        Edges.is("has no item", x.item(0, 0, 0), -12);
        Edges.is("of 4 again", x.sheet(0, 0, 4), 1);
        for (int i = 0; i < 4; i++) Edges.is("all 0", x.item(0, 0, i), 0);
        for (int n : new int[] {-1, 41, Edges.MIN, Edges.MAX}) {
            x.sheet(1, 2, 3);
            Edges.is("missing, whatever n", x.sheet(1, -1, n), 1);
            Edges.is("missing", x.item(1, 2, 0), -11);
        }
        for (int s : new int[] {-1, 4}) Edges.leaves("SHEET " + s, y -> y.sheet(s, 0, 1), Due.BAD);
        for (int s : new int[] {-1, 4}) Edges.leaves("SHEET " + s + " missing", y -> y.sheet(s, -1, 1), Due.BAD);
        for (int sort : new int[] {-2, 5}) Edges.leaves("sort " + sort, y -> y.sheet(0, sort, 1), Due.BAD);
        for (int n : new int[] {41, 1000, Edges.MAX}) Edges.leaves("of " + n, y -> y.sheet(0, 0, n), Due.BAD);
        for (int n : new int[] {-1, -1000, Edges.MIN}) Edges.leaves("of " + n, y -> y.sheet(0, 0, n), -14);
        for (int v : Edges.OUTSIDE) {
            Edges.leaves("SHEET " + v, y -> y.sheet(v, 0, 1), Due.BAD);
            Edges.leaves("sort " + v, y -> y.sheet(0, v, 1), Due.BAD);
        }
    }

    private static void write() {
        Edges.says("Item i becomes v, narrowed to its sort (booleans: whether it is not 0): 1. BAD: no such SHEET; -11; -12.");
        int[][] due = {
            {127, 127, 127, 127, 1}, {128, 128, 128, 128, 1}, {-128, -128, -128, -128, 1}, {-129, -129, -129, -129, 1},
            {255, 255, 255, 255, 1}, {256, 256, 256, 256, 1}, {32767, 32767, 32767, 32767, 1}, {32768, 32768, 32768, 32768, 1},
            {-32769, -32769, -32769, -32769, 1}, {65536, 65536, 65536, 65536, 1}, {0, 0, 0, 0, 0}, {-1, -1, -1, -1, 1},
            {Edges.MAX, Edges.MAX, Edges.MAX, Edges.MAX, 1}, {Edges.MIN, Edges.MIN, Edges.MIN, Edges.MIN, 1}};
        int[] bytes = {127, -128, -128, 127, -1, 0, -1, 0, -1, 0, 0, -1, -1, 0};
        int[] shorts = {127, 128, -128, -129, 255, 256, 32767, -32768, 32767, 0, 0, -1, -1, 0};
        for (int sort = 0; sort < 5; sort++) {
            OakCourt x = new OakCourt();
            x.sheet(2, sort, 3);
            for (int k = 0; k < due.length; k++) {
                int v = due[k][0];
                Edges.is("write " + v, x.write(2, 2, v), 1);
                Edges.is(v + " of sort " + sort, x.item(2, sort, 2), sort == 0 ? bytes[k] : sort == 1 ? shorts[k] : due[k][sort]);
            }
            Edges.is("the others", x.item(2, sort, 0) + x.item(2, sort, 1), 0);
        }
        for (int s : new int[] {-1, 4}) Edges.leaves("SHEET " + s, y -> y.write(s, 0, 1), Due.BAD);
        for (int i : new int[] {-1, 0, 40}) Edges.leaves("a missing one", y -> y.write(3, i, 1), -11);
        for (int i : new int[] {-1, 4}) Edges.leaves("item " + i, y -> y.write(0, i, 1), -12);
        for (int v : Edges.OUTSIDE) {
            Edges.leaves("SHEET " + v, y -> y.write(v, 0, 1), Due.BAD);
            Edges.leaves("item " + v, y -> y.write(0, v, 1), -12);
            Edges.leaves("item " + v + " of a missing one", y -> y.write(3, v, 1), -11);
        }
        OakCourt x = new OakCourt();
        x.sheet(0, 2, 0);
        Edges.is("the first of none", x.write(0, 0, 1), -12);
    }

    private static void item() {
        Edges.says("Item i, taken for a sort (0 to 4; of longs the lowest 32 bits; of booleans 1, 0)."
            + " BAD: no such SHEET, sort; -13; -11; -12. (An item may be as low as these, too.)");
        OakCourt x = new OakCourt();
        for (int sort = 0; sort < 4; sort++) {
            x.sheet(sort, sort, 1);
            for (int low : new int[] {-1, -11, -12, -13, -15}) {
                x.write(sort, 0, low);
                Edges.is("as low", x.item(sort, sort, 0), low);
            }
            for (int as = 0; as < 5; as++) if (as != sort) Edges.is("sort " + sort + " as " + as, x.item(sort, as, 0), -13);
        }
        x.sheet(0, 4, 1);
        for (int as = 0; as < 4; as++) Edges.is("booleans as " + as, x.item(0, as, 0), -13);
        for (int s : new int[] {-1, 4}) Edges.leaves("SHEET " + s, y -> y.item(s, 0, 0), Due.BAD);
        for (int as : new int[] {-1, 5}) Edges.leaves("sort " + as, y -> y.item(0, as, 0), Due.BAD);
        for (int as = 0; as < 5; as++) {
            int sort = as;
            Edges.leaves("a missing one as " + as, y -> y.item(3, sort, 0), -11);
        }
        for (int i : new int[] {-1, 4}) Edges.leaves("item " + i, y -> y.item(0, 0, i), -12);
        for (int v : Edges.OUTSIDE) {
            Edges.leaves("SHEET " + v, y -> y.item(v, 0, 0), Due.BAD);
            Edges.leaves("sort " + v, y -> y.item(0, v, 0), Due.BAD);
            Edges.leaves("item " + v, y -> y.item(0, 0, v), -12);
            Edges.leaves("item " + v + " as another sort", y -> y.item(0, 1, v), -13);
            Edges.leaves("item " + v + " of a missing one", y -> y.item(3, 0, v), -11);
        }
    }

    /** Nobody of a tower sits; sheet 0 has these bytes. */
    private static OakCourt climber(int... items) {
        OakCourt x = Due.tower();
        x.person(60, 0);
        x.sheet(0, 0, items.length);
        for (int i = 0; i < items.length; i++) x.write(0, i, items[i]);
        return x;
    }

    private static void climbs() {
        Edges.says("n (0 to 20) items of a SHEET taken for bytes, from item i on, are BOUGHS on which a PERSON SITS,"
            + " one behind the other (those that sit() refuses are left out): on how many.");
        OakCourt x = climber(new int[40]);
        Edges.is("none", x.climbs(0, 0, 0, 0), 0);
        Edges.is("SITS nowhere", x.personOf(0, 2), Due.NO);
        Edges.is("the last twenty", x.climbs(0, 0, 20, 20), 20);
        Edges.is("SITS", x.personOf(0, 2), 0);
        OakCourt y = climber(3, 4, -1, -9, 127, -128, 2, 4);
        Edges.is("two of eight", y.climbs(0, 0, 0, 8), 2);
        Edges.is("the last that there is", y.personOf(0, 2), 2);
        Edges.is("none of five", y.climbs(0, 0, 1, 5), 0);
        Edges.is("SITS still", y.personOf(0, 2), 2);
        y.sit(0, 3);
        y.fall();
        Edges.is("not on the BROKEN one", y.climbs(0, 0, 0, 1), 0);
        Edges.is("SITS nowhere", y.personOf(0, 2), Due.NO);
        Edges.is("the same one again", climber(1, 1, 1).climbs(0, 0, 0, 3), 3);
        Edges.is("256 is 0 of bytes", climber(256).climbs(0, 0, 0, 1), 1);
    }

    private static void climbsOutside() {
        Edges.says("BAD: no such PERSON, SHEET, n; -13; -11; -12: what stood ahead was done.");
        for (int p : new int[] {-1, 5, 8}) Edges.leaves("person " + p, x -> x.climbs(p, 0, 0, 1), Due.BAD);
        for (int s : new int[] {-1, 4}) Edges.leaves("SHEET " + s, x -> x.climbs(0, s, 0, 1), Due.BAD);
        for (int n : new int[] {-1, 21}) Edges.leaves("of " + n, x -> x.climbs(0, 0, 0, n), Due.BAD);
        for (int s = 1; s < 4; s++) {
            int sheet = s;
            Edges.leaves("of another sort or missing", x -> x.climbs(0, sheet, 0, 1), s == 3 ? -11 : -13);
            Edges.leaves("no items of it", x -> x.climbs(0, sheet, 0, 0), s == 3 ? -11 : -13);
        }
        for (int v : Edges.OUTSIDE) {
            Edges.leaves("person " + v, x -> x.climbs(v, 0, 0, 1), Due.BAD);
            Edges.leaves("SHEET " + v, x -> x.climbs(0, v, 0, 1), Due.BAD);
            Edges.leaves("of " + v, x -> x.climbs(0, 0, 0, v), Due.BAD);
            Edges.leaves("from " + v, x -> x.climbs(0, 0, v, 20), -12);
        }
        for (int i : new int[] {-1, -20, 4}) Edges.leaves("from " + i, x -> x.climbs(0, 0, i, 20), -12);
        OakCourt y = climber(2, 1, 0);
        Edges.is("one too many", y.climbs(0, 0, 1, 3), -12);
        Edges.is("what stood ahead was done", y.personOf(0, 2), 0);
        Edges.is("one from behind the last", y.climbs(0, 0, 3, 1), -12);
        Edges.is("one from ahead of the first", y.climbs(0, 0, -1, 1), -12);
        Edges.is("and three more", y.climbs(0, 0, -1, 4), -12);
        Edges.is("nothing stood ahead", y.personOf(0, 2), 0);
        Edges.is("just all", y.climbs(0, 0, 0, 3), 3);
        Edges.is("all and one more", y.climbs(0, 0, 0, 4), -12);
        Edges.is("the first of none", climber().climbs(0, 0, 0, 1), -12);
    }

    // ---- shelves

    private static void shelves() {
        Edges.says("SHELVES 0 to 3 hold a BOUGH (by its number; nothing, if there is no such one at the time), a SHEET's row,"
            + " or nothing (at first).");
        for (int s = 0; s < 4; s++) {
            OakCourt x = Edges.nine(5, 1);
            Edges.is("nothing at first", x.taken(s, 0), -11);
            Edges.is("nothing as a row", x.taken(s, 10), -11);
            Edges.is("no act of it", x.act(s, 0, 1), 0);
            Edges.is("the ninth", x.shelf(s, 0, 8), 1);
            Edges.is("is there", x.taken(s, 5), 8);
            x.sheet(s, 3, 40);
            Edges.is("a row of 40", x.shelf(s, 1, s), 1);
            Edges.is("is there", x.taken(s, 13), 40);
            x.sheet(s, 0, 0);
            Edges.is("it is the row of then", x.taken(s, 13), 40);
            Edges.is("a row of none", x.shelf(s, 1, s), 1);
            Edges.is("is one", x.taken(s, 10), 0);
            x.sheet(s, -1, 0);
            Edges.is("still", x.taken(s, 10), 0);
            Edges.is("a missing one", x.shelf(s, 1, s), 1);
            Edges.is("is nothing", x.taken(s, 10), -11);
        }
    }

    private static void shelf() {
        Edges.says("A SHELF holds BOUGH n (what 0), the row of SHEET n (1; nothing, if missing), nothing (2): 1."
            + " BAD: no such SHELF, what, thing.");
        OakCourt x = Edges.rich();
        Edges.is("a BROKEN one", x.shelf(3, 0, 2), 1);
        Edges.is("is there", x.taken(3, 3), 2);
        Edges.is("nothing", x.shelf(3, 2, 0), 1);
        Edges.is("nothing again", x.shelf(3, 2, Edges.MIN), 1);
        Edges.is("is there", x.taken(3, 3), -11);
        for (int s : new int[] {-1, 4}) Edges.leaves("SHELF " + s, y -> y.shelf(s, 2, 0), Due.BAD);
        for (int what : new int[] {-1, 3}) Edges.leaves("what " + what, y -> y.shelf(0, what, 0), Due.BAD);
        for (int b : new int[] {-1, -9, 5, 9}) Edges.leaves("BOUGH " + b, y -> y.shelf(0, 0, b), Due.BAD);
        for (int n : new int[] {-1, 4}) Edges.leaves("SHEET " + n, y -> y.shelf(0, 1, n), Due.BAD);
        for (int v : Edges.OUTSIDE) {
            Edges.leaves("SHELF " + v, y -> y.shelf(v, 0, 0), Due.BAD);
            Edges.leaves("what " + v, y -> y.shelf(0, v, 0), Due.BAD);
            Edges.leaves("BOUGH " + v, y -> y.shelf(0, 0, v), Due.BAD);
            Edges.leaves("SHEET " + v, y -> y.shelf(0, 1, v), Due.BAD);
        }
    }

    private static void byItsNumber() {
        Edges.says("(by its number; nothing, if there is no such one at the time)");
        OakCourt x = Edges.nine(1, 100);
        x.shelf(0, 0, 8);
        Edges.is("nothing is kept", x.again(), Due.NONE);
        OakCourt y = new OakCourt();
        y.keep();
        y.bough(1, -1, 1, 1);
        y.shelf(0, 0, 0);
        Edges.is("there is one", y.taken(0, 1), 0);
        y.again();
        Edges.is("there is none", y.taken(0, 1), -11);
        Edges.is("none, of another KIND", y.taken(0, 2), -11);
        Edges.is("none, as a row", y.taken(0, 10), -11);
        Edges.is("no act", y.act(0, 0, 7), 0);
        y.bough(2, -1, 5, 1);
        Edges.is("another of that number", y.taken(0, 2), 0);
        Edges.is("its act", y.act(0, 1, 7), 9);
        y.graft(0, 1);
        Edges.is("of the KIND of now", y.taken(0, 2), -13);
        y.change(0, 2, 9);
        Edges.is("of the LONG of now", y.act(0, 2, 18), 2);
    }

    private static void taken() {
        Edges.says("What a SHELF holds taken for a thing of KIND as (0 to 5, or one under it): its number;"
            + " for a row of sort as - 10 (as 10 to 14): how many items. BAD: no such SHELF, as; -13; -11.");
        int[] boughAs = {1, -13, 1, -13, -13, -13};
        int[] rowAs = {-13, -13, 3, -13, -13};
        for (int as = 0; as < 6; as++) {
            int kind = as;
            Edges.leaves("a BOUGH as " + as, x -> x.taken(0, kind), boughAs[as]);
            Edges.leaves("a row as " + as, x -> x.taken(1, kind), -13);
            Edges.leaves("nothing as " + as, x -> x.taken(3, kind), -11);
        }
        for (int sort = 0; sort < 5; sort++) {
            int as = 10 + sort;
            Edges.leaves("a BOUGH as " + as, x -> x.taken(0, as), -13);
            Edges.leaves("a row as " + as, x -> x.taken(1, as), rowAs[sort]);
            Edges.leaves("nothing as " + as, x -> x.taken(3, as), -11);
        }
        for (int as : new int[] {-1, 6, 7, 8, 9, 15}) {
            for (int s = 0; s < 4; s++) {
                int shelf = s;
                Edges.leaves("as " + as, x -> x.taken(shelf, as), Due.BAD);
            }
        }
        for (int s : new int[] {-1, 4}) Edges.leaves("SHELF " + s, x -> x.taken(s, 0), Due.BAD);
        for (int v : Edges.OUTSIDE) {
            Edges.leaves("as " + v, x -> x.taken(0, v), Due.BAD);
            Edges.leaves("SHELF " + v, x -> x.taken(v, 0), Due.BAD);
        }
    }

    // ---- acts

    private static void acts(OakCourt x, int b, int act, int in, int due, int... bodies) {
        x.shelf(0, 0, b);
        Edges.is("act " + act + " of " + b + " with " + in, x.act(0, act, in), due);
        for (int i = 0; i < bodies.length; i++) Edges.is("body " + i, x.trace(i), bodies[i]);
        Edges.is("no more bodies", x.trace(bodies.length), Due.NONE);
        Edges.is("bodies", x.many(6), bodies.length);
    }

    /** Boughs 0 to 4 are green, dry, old, propped, kings, 9 long. */
    private static void bodies() {
        Edges.says("THE TRACE: numbers of the bodies that ran in the latest act(), as they began (left first); the first 30 are kept.");
        OakCourt x = Due.fiveOnTrunk(9, 1);
        acts(x, 2, 3, 1, ((1 + 2 ^ 2) * 2 - 9 ^ 9) + 2 / 7, 51, 13, 30, 11, 50, 10, 12);
        acts(x, 4, 2, 4, 5 / 5 + 9 + 4, 61, 40, 12, 10);
        acts(x, 4, 3, 4, -16 ^ 9, 13, 60, 11, 10);
        acts(x, 0, 1, 4, 24, 11, 20, 10);
        acts(x, 0, 0, 4, 12, 20, 10);
        acts(x, 1, 0, 4, 5, 10);
    }

    private static void wrapping() {
        Edges.says("with a number x (ints that wrap)");
        OakCourt x = Due.fiveOnTrunk(9, 1);
        acts(x, 1, 0, Edges.MAX, Edges.MIN, 10);
        acts(x, 1, 1, 1073741823, Edges.MIN - 9, 30, 11, 10);
        acts(x, 0, 0, Edges.MAX, 2147483645, 20, 10);
        acts(x, 0, 0, Edges.MIN, Edges.MIN, 20, 10);
        acts(x, 3, 2, Edges.MAX, -357913941, 40, 12);
        acts(x, 4, 1, Edges.MIN, -8, 60, 11, 10);
        acts(x, 4, 1, 1073741820, Edges.MIN, 60, 11, 10);
        x.change(2, 2, 1);
        acts(x, 2, 2, Edges.MIN, Edges.MIN, 12);
        acts(x, 2, 2, Edges.MAX, Edges.MIN + 1, 12);
    }

    private static void parted() {
        Edges.says("12 shares: x by (a - n), the rest away (-15 if these are the same; that is all that act() answers then).");
        OakCourt x = Due.fiveOnTrunk(4, 1);
        acts(x, 4, 2, 7, -15, 61, 40, 12);
        acts(x, 4, 3, 0, -8 ^ 4, 13, 60, 11, 10);
        x.change(2, 2, 2);
        acts(x, 2, 2, 7, -15, 12);
        acts(x, 2, 3, 7, -15, 51, 13, 30, 11, 50, 10, 12);
        x.change(3, 2, 3);
        acts(x, 3, 2, -1, -15, 40, 12);
        x.change(1, 2, 1);
        acts(x, 1, 2, 0, -15, 12);
        x.change(1, 2, 2);
        acts(x, 1, 2, 9, 9, 12);
        acts(x, 0, 2, 7, 1, 12);
        acts(x, 0, 2, -7, -1, 12);
        acts(x, 0, 2, 3, 0, 12);
        acts(x, 0, 2, -60, -15, 12);
    }

    private static void act() {
        Edges.says("An ACT (0 to 3) of the thing on a SHELF, with x. 0, and no TRACE then: no such SHELF, act, nothing, a row.");
        int[][] none = {{-1, 0}, {4, 0}, {Edges.MIN, 0}, {Edges.MAX, 0}, {0, -1}, {0, 4}, {0, Edges.MIN}, {0, Edges.MAX}, {3, 0}, {1, 0}, {3, 4}};
        for (int[] c : none) {
            OakCourt x = Edges.rich();
            String was = Edges.oak(x).replace(" 6 4 ", " 6 0 ");
            Edges.is("there was a TRACE", x.many(6), 4);
            Edges.is("act(" + c[0] + ", " + c[1] + ", 5)", x.act(c[0], c[1], 5), 0);
            Edges.is("no TRACE", x.many(6), 0);
            Edges.is("none", x.trace(0), Due.NONE);
            Edges.is("all else stays", Edges.oak(x).equals(was) ? 0 : 1, 0);
        }
        OakCourt y = Edges.rich();
        y.shelf(3, 0, 2);
        Edges.is("of a BROKEN one", y.act(3, 0, 5), 7 ^ 2);
    }

    private static void trace() {
        Edges.says("THE TRACE's i-th body. NONE.");
        Edges.is("no act yet", new OakCourt().trace(0), Due.NONE);
        int[] due = {13, 30, 11, 10};
        for (int i = 0; i < 4; i++) {
            int k = i;
            Edges.leaves("body " + i, x -> x.trace(k), due[i]);
        }
        for (int i : new int[] {-1, 4, 29, 30}) Edges.leaves("body " + i, x -> x.trace(i), Due.NONE);
        for (int i : Edges.OUTSIDE) Edges.leaves("body " + i, x -> x.trace(i), Due.NONE);
    }

    private static void many() {
        Edges.says("How many: what = 0 BOUGHS, 1 RULES, 2 PEOPLE, 3 REPORTS, 4 ROWS, 5 bytes of THE TAPE,"
            + " 6 bodies of THE TRACE (those kept, 30 at most). BAD: another what.");
        int[] rich = {5, 2, 5, 3, 2, 6, 4};
        int[] full = {9, 2, 8, 6, 2, 200, 4};
        for (int what = 0; what < 7; what++) {
            int k = what;
            Edges.is("none", new OakCourt().many(what), 0);
            Edges.leaves("some", x -> x.many(k), rich[what]);
            Edges.leaves("all", Edges::full, x -> x.many(k), full[what]);
        }
        for (int what : new int[] {-1, 7}) Edges.leaves("what " + what, x -> x.many(what), Due.BAD);
        for (int what : Edges.OUTSIDE) Edges.leaves("what " + what, x -> x.many(what), Due.BAD);
    }

    // ---- kept

    private static void keep() {
        Edges.says("All but THE TAPE, ROWS, SHEETS, SHELVES, THE TRACE is kept: 1.");
        OakCourt twin = Edges.rich();
        String oak = Edges.oak(twin), host = Edges.host(twin);
        OakCourt x = Edges.rich();
        Edges.is("keep()", x.keep(), 1);
        Edges.is("nothing else by it", (Edges.oak(x) + Edges.host(x)).equals(oak + host) ? 0 : 1, 0);
        for (int b = 0; b < 5; b++) {
            x.change(b, 2, 9);
            x.change(b, 3, 1);
            x.graft(b, 1 + (x.boughOf(b, 0) + 1) % 5);
        }
        x.bough(1, 0, 1, 1);
        x.person(1, 1);
        for (int p = 0; p < 5; p++) x.sit(p, 4);
        x.fall();
        x.seed(5);
        x.forget();
        for (int r = 0; r < 3; r++) x.report(3, 1 - r / 2);
        x.weather(0, 9);
        x.weather(1, 9);
        Edges.is("other RULES", x.rules() + x.rules(), -104);
        Due.feed(x, "old cu");
        Edges.is("again()", x.again(), 5);
        Edges.is("all is as it was", Edges.oak(x).equals(oak) ? 0 : 1, 0);
        Edges.is("and what isn't kept stays", Edges.host(x).equals(host) ? 0 : 1, 0);
        OakCourt y = new OakCourt();
        Edges.is("nothing at all", y.keep() * 10 + y.again(), 10);
    }

    private static void again() {
        Edges.says("It becomes what was kept latest (which stays): how many BOUGHS. NONE: nothing is kept.");
        Edges.leaves("nothing is kept", () -> Edges.nine(1, 1), x -> x.again(), Due.NONE);
        OakCourt x = Edges.rich();
        Edges.is("of rich()", x.again(), 5);
        Edges.is("not BROKEN then", x.boughOf(2, 6), 0);
        for (int i = 0; i < 3; i++) {
            x.bough(1, -1, 1, 1);
            Edges.is("which stays", x.again(), 5);
        }
        x.bough(1, -1, 1, 1);
        x.keep();
        x.bough(1, -1, 1, 1);
        Edges.is("the latest", x.again(), 6);
        OakCourt y = Edges.nine(1, 100);
        y.keep();
        y.weather(1, 9);
        y.change(8, 3, 1);
        y.fall();
        Edges.is("nine", y.again(), 9);
        Edges.is("none is BROKEN", y.boughOf(8, 6), 0);
        Edges.is("FULL still", y.bough(1, -1, 1, 1), Due.FULL);
        reports();
    }

    /** What was told of the same BOUGHS is kept with them. */
    private static void reports() {
        OakCourt x = Edges.nine(1, 100);
        x.report(0, 1);
        x.report(1, 0);
        x.change(0, 3, 50);
        x.keep();
        x.forget();
        x.report(0, 0);
        x.report(1, 1);
        Edges.is("none FITS", x.span(0), 0);
        x.again();
        Edges.is("those of 51 to 100", x.span(1) * 1000 + x.span(2), 51100);
    }
}

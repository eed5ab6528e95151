import java.io.IOException;

/** The edges that the document names, sentence by sentence: its terms, boughs, weather, people. */
public final class EdgesOfOakTest {
    public static void main(String[] args) throws IOException {
        Edges.begin(args);
        lastCall();
        refusalsChangeNothing();
        codes();
        firstNamed();
        sets();
        quotients();
        newObject();
        nineBoughs();
        grownOn();
        lengthsAndHolds();
        otherKinds();
        above();
        boughOf();
        change();
        graft();
        weather();
        holdsNow();
        bearsAndCracks();
        person();
        personOf();
        sitAndDown();
        Edges.end("EdgesOfOakTest");
    }

    private static void lastCall() {
        Edges.says("An object is used for at most 512 calls after it has been made");
        OakCourt x = Edges.one(100, 100);
        for (int call = 3; call < 512; call++) {
            int due = call == 3 ? Due.NO : call % 2 == 0 ? 0 : Due.NO;
            Edges.is("call " + call, call % 2 == 0 ? x.down(0) : x.sit(0, 0), due);
        }
        Edges.is("call 512", x.personOf(0, 2), 0);
        OakCourt y = Edges.nine(1, 999);
        for (int p = 0; p < 8; p++) y.person(1, p % 2);
        for (int call = 18; call < 512; call += 3) {
            Edges.is("call " + call, y.game(0, 4), 2);
            Edges.is("call " + (call + 1), y.seat(15, 3), 0);
            Edges.is("call " + (call + 2), y.often(60), 0);
        }
    }

    private static void refusalsChangeNothing() {
        Edges.says("Answers below 0, where not told otherwise, are refusals; such a call changes nothing"
            + " (but that THE TAPE is used up by rules())");
        OakCourt x = Edges.rich();
        String was = Edges.oak(x).replace(" 6 4 ", " 0 4 ") + Edges.host(x);
        Edges.is("rules() of a fault", x.rules(), -104);
        Edges.is("the oak and the host stay", (Edges.oak(x) + Edges.host(x)).equals(was) ? 0 : 1, 0);
        Edges.is("THE TAPE is used up", x.many(5), 0);
        Edges.is("what is kept stays", x.again(), 5);
        Edges.is("with its own RULES", x.boughOf(4, 4), 174);
        Edges.leaves("again(), when nothing is kept", () -> Due.tower(), y -> y.again(), Due.NONE);
    }

    private static void codes() {
        Edges.says("BAD (-1) there is no such thing, or a number is not as told; FULL (-2); NONE (-3); STATE (-4);");
        Edges.is("BAD", OakCourt.BAD, -1);
        Edges.is("FULL", OakCourt.FULL, -2);
        Edges.is("NONE", OakCourt.NONE, -3);
        Edges.is("STATE", OakCourt.STATE, -4);
        Edges.leaves("no such thing", x -> x.down(5), -1);
        Edges.leaves("a number not as told", x -> x.weather(0, 10), -1);
        Edges.leaves("full", Edges::full, x -> x.report(0, 0), -2);
        Edges.leaves("none", x -> x.trace(4), -3);
        Edges.leaves("broken", x -> x.sit(0, 2), -4);
        Edges.says("-11 nothing where something is asked, -12 a place outside, -13 a thing of another sort or kind,"
            + " -14 a size below 0, -15 parted by 0.");
        Edges.leaves("nothing", x -> x.taken(3, 0), -11);
        Edges.leaves("a place outside", x -> x.item(0, 0, 4), -12);
        Edges.leaves("another sort", x -> x.item(0, 4, 0), -13);
        Edges.leaves("another kind", x -> x.taken(0, 1), -13);
        Edges.leaves("a size below 0", x -> x.sheet(0, 0, -1), -14);
        OakCourt y = Edges.chain(2, 1);
        y.shelf(0, 0, 1);
        Edges.is("parted by 0", y.act(0, 2, 9), -15);
    }

    private static void firstNamed() {
        Edges.says("of several the first named");
        Edges.leaves("bough: BAD ahead of FULL, STATE", Edges::full, x -> x.bough(1, 2, 10, 1), Due.BAD);
        Edges.leaves("bough: FULL ahead of STATE", Edges::full, x -> x.bough(1, 2, 1, 1), Due.FULL);
        Edges.leaves("bough: BAD ahead of STATE", x -> x.bough(6, 2, 1, 1), Due.BAD);
        Edges.leaves("feed: BAD ahead of FULL", Edges::full, x -> x.feed(0, 9), Due.BAD);
        Edges.leaves("person: BAD ahead of FULL", Edges::full, x -> x.person(1, 2), Due.BAD);
        Edges.leaves("sit: BAD ahead of STATE", x -> x.sit(5, 2), Due.BAD);
        Edges.leaves("best: BAD ahead of NONE", OakCourt::new, x -> x.best(0), Due.BAD);
        Edges.leaves("seat: BAD ahead of NONE", OakCourt::new, x -> x.seat(1, 0), Due.BAD);
        Edges.leaves("seat: BAD i ahead of NONE", OakCourt::new, x -> x.seat(0, 4), Due.BAD);
        Edges.leaves("move: BAD ahead of NONE", OakCourt::new, x -> x.move(0, 5), Due.BAD);
        Edges.leaves("report: BAD ahead of FULL", Edges::full, x -> x.report(0, 2), Due.BAD);
        Edges.leaves("span: BAD ahead of NONE", x -> x.span(3), Due.BAD);
        Edges.leaves("sheet: BAD ahead of -14", x -> x.sheet(0, 5, -1), Due.BAD);
        Edges.leaves("write: BAD ahead of -11, -12", x -> x.write(4, -1, 0), Due.BAD);
        Edges.leaves("write: -11 ahead of -12", x -> x.write(3, -1, 0), -11);
        Edges.leaves("item: BAD ahead of -13, -12", x -> x.item(1, 5, -1), Due.BAD);
        Edges.leaves("item: -13 ahead of -12", x -> x.item(1, 0, -1), -13);
        Edges.leaves("item: -11 ahead of -12", x -> x.item(3, 0, -1), -11);
        Edges.leaves("climbs: BAD ahead of -13, -12", x -> x.climbs(0, 1, -1, 21), Due.BAD);
        Edges.leaves("climbs: -13 ahead of -12", x -> x.climbs(0, 1, -1, 1), -13);
        Edges.leaves("climbs: -11 ahead of -12", x -> x.climbs(0, 3, -1, 1), -11);
        Edges.leaves("taken: BAD ahead of -13", x -> x.taken(1, 6), Due.BAD);
        Edges.leaves("taken: BAD ahead of -11", x -> x.taken(3, 15), Due.BAD);
    }

    private static void sets() {
        Edges.says("Sets are told by bits");
        OakCourt x = Edges.nine(1, 10);
        for (int p = 0; p < 8; p++) x.person(11, 0);
        Edges.is("none", x.cracks(), 0);
        Edges.is("safe of none", x.safe(7), 0);
        x.sit(7, 8);
        Edges.is("the ninth alone", x.cracks(), 256);
        x.change(8, 3, 11);
        Edges.is("no more", x.cracks(), 0);
        Edges.is("safe: the ninth, where it sits", x.safe(7), 0);
        x.down(7);
        Edges.is("safe: the ninth", x.safe(7), 256);
        Edges.is("the eighth of PEOPLE", x.seat(128, 0), 8);
        Edges.is("a ninth of them", x.seat(256, 0), Due.BAD);
    }

    private static void quotients() {
        Edges.says("Quotients are cut towards 0");
        OakCourt x = Due.fiveOnTrunk(2, 201);
        Edges.is("half of 201", x.boughOf(1, 4), 100);
        x.change(1, 3, 1);
        Edges.is("half of 1", x.boughOf(1, 4), 0);
        x.shelf(0, 0, 0);
        int[][] shares = {{7, 3}, {-7, -3}, {1, 0}, {-1, 0}, {Edges.MIN, -1073741824}, {Edges.MAX, 1073741823}};
        for (int[] s : shares) Edges.is(s[0] + " by 2", x.act(0, 2, s[0]), s[1]);
        x.graft(3, 1);
        x.change(3, 2, 1);
        x.shelf(0, 0, 3);
        Edges.is("7 by -2", x.act(0, 2, 7), -3);
        Edges.is("-7 by -2", x.act(0, 2, -7), 3);
    }

    private static void newObject() {
        Edges.says("No BOUGHS, RULES, PEOPLE, REPORTS; nothing is kept.");
        for (int k = 0; k < 7; k++) Edges.is("many(" + k + ")", new OakCourt().many(k), 0);
        Edges.is("again()", new OakCourt().again(), Due.NONE);
        Edges.is("worst()", new OakCourt().worst(), Due.NONE);
        Edges.is("boughOf(0, 0)", new OakCourt().boughOf(0, 0), Due.BAD);
        Edges.is("personOf(0, 0)", new OakCourt().personOf(0, 0), Due.BAD);
        Edges.is("forget()", new OakCourt().forget(), 0);
    }

    private static void nineBoughs() {
        Edges.says("BOUGHS, 9 at most, numbered as they come");
        OakCourt x = new OakCourt();
        for (int b = 0; b < 9; b++) {
            Edges.is("bough " + b + " ahead of it", x.boughOf(b, 0), Due.BAD);
            Edges.is("bough " + b, x.bough(1, -1, 1, 1), b);
            Edges.is("many", x.many(0), b + 1);
        }
        Edges.is("a tenth", x.bough(1, -1, 1, 1), Due.FULL);
        Edges.is("a tenth on the ninth", x.bough(1, 8, 1, 1), Due.FULL);
        Edges.is("many still", x.many(0), 9);
        Edges.leaves("the tenth", Edges::full, y -> y.bough(1, -1, 1, 1), Due.FULL);
        OakCourt z = Edges.chain(3, 1);
        z.keep();
        Edges.is("a fourth", z.bough(1, -1, 1, 1), 3);
        Edges.is("back to three", z.again(), 3);
        Edges.is("a fourth again", z.bough(2, -1, 1, 1), 3);
    }

    private static void grownOn() {
        Edges.says("A BOUGH of a KIND 1 to 5 on one there is (on -1: the trunk): its number. BAD; FULL; STATE: that one is BROKEN.");
        OakCourt x = new OakCourt();
        Edges.is("on 0, when there is none", x.bough(1, 0, 1, 1), Due.BAD);
        Edges.is("on the trunk", x.bough(1, -1, 1, 1), 0);
        Edges.is("on itself", x.bough(1, 1, 1, 1), Due.BAD);
        Edges.is("on 0", x.bough(1, 0, 1, 1), 1);
        for (int on : new int[] {-2, -9, 5, 9}) Edges.leaves("on " + on, y -> y.bough(1, on, 1, 1), Due.BAD);
        for (int on : Edges.OUTSIDE) Edges.leaves("on " + on, y -> y.bough(1, on, 1, 1), Due.BAD);
        for (int kind : new int[] {-1, 0, 6, Edges.MIN, Edges.MAX}) {
            Edges.leaves("of KIND " + kind, y -> y.bough(kind, 0, 1, 1), Due.BAD);
        }
        Edges.is("of KIND 1", x.bough(1, 1, 1, 1), 2);
        Edges.is("of KIND 5", x.bough(5, 1, 1, 1), 3);
        Edges.leaves("on a BROKEN one", y -> y.bough(1, 2, 1, 1), Due.STATE);
        OakCourt z = Edges.rich();
        Edges.is("on what a BROKEN one grows on", z.bough(1, 1, 1, 1), 5);
        Edges.is("it isn't BROKEN", z.boughOf(5, 6), 0);
    }

    private static void lengthsAndHolds() {
        Edges.says("LONG (1 to 9), HOLDS (1 to 999); BROKEN or not (at first)");
        OakCourt x = new OakCourt();
        Edges.is("1, 1", x.bough(1, -1, 1, 1), 0);
        Edges.is("9, 999", x.bough(1, -1, 9, 999), 1);
        Edges.is("LONG", x.boughOf(0, 2) * 10 + x.boughOf(1, 2), 19);
        Edges.is("HOLDS", x.boughOf(0, 3) * 1000 + x.boughOf(1, 3), 1999);
        Edges.is("BROKEN", x.boughOf(0, 6) + x.boughOf(1, 6), 0);
        for (int v : new int[] {-1, 0, 10, Edges.MIN, Edges.MAX}) Edges.leaves("LONG " + v, y -> y.bough(1, -1, v, 1), Due.BAD);
        for (int v : new int[] {-1, 0, 1000, Edges.MIN, Edges.MAX}) Edges.leaves("HOLDS " + v, y -> y.bough(1, -1, 1, v), Due.BAD);
    }

    private static void otherKinds() {
        Edges.says("KINDS: 0 bough; 1 green, 2 dry, 4 propped (under bough); 3 old (under dry); 5 kings (under propped).");
        OakCourt x = Due.fiveOnTrunk(1, 100);
        Edges.is("none is of KIND 0", x.bough(0, -1, 1, 1), Due.BAD);
        Edges.is("nor becomes it", x.graft(0, 0), Due.BAD);
        int[] above = {3, 5, 13, 17, 49};
        for (int b = 0; b < 5; b++) {
            x.shelf(0, 0, b);
            int kinds = 0;
            for (int as = 0; as < 6; as++) if (x.taken(0, as) == b) kinds |= 1 << as;
            Edges.is("KINDS of " + b, kinds, b < 1 ? 3 : above[b]);
        }
    }

    private static void above() {
        Edges.says("ABOVE a BOUGH: it, and those that grow on one ABOVE it.");
        OakCourt x = Edges.chain(9, 999);
        x.person(200, 0);
        x.person(1, 1);
        x.sit(0, 8);
        x.sit(1, 0);
        for (int b = 0; b < 9; b++) Edges.is("BEARS of " + b, x.boughOf(b, 5), b == 0 ? 201 : 200);
        x.change(0, 3, 1);
        Edges.is("all nine break with the lowest", x.fall(), 2);
        for (int b = 0; b < 9; b++) Edges.is("BROKEN " + b, x.boughOf(b, 6), 2);
        OakCourt y = Edges.chain(9, 100);
        y.person(101, 0);
        y.sit(0, 8);
        y.change(7, 3, 99);
        for (int b = 0; b < 7; b++) y.change(b, 3, 101);
        Edges.is("7 is worse than 8", y.worst(), 7);
        Edges.is("7 and what is ABOVE it", y.fall(), 1);
        for (int b = 0; b < 9; b++) Edges.is("BROKEN " + b, y.boughOf(b, 6), b < 7 ? 0 : 2);
    }

    private static void boughOf() {
        Edges.says("Of a BOUGH: what = 0 KIND, 1 ON (-9: the trunk), 2 LONG, 3 HOLDS, 4 HOLDS NOW, 5 BEARS,"
            + " 6 2 if it is BROKEN, 1 if it CRACKS, else 0. BAD.");
        int[] due = {1, -9, 3, 400, 445, 166, 0};
        for (int what = 0; what < 7; what++) {
            int w = what;
            Edges.leaves("boughOf(0, " + what + ")", x -> x.boughOf(0, w), due[what]);
        }
        Edges.leaves("ON of a higher one", x -> x.boughOf(3, 1), 0);
        Edges.leaves("BROKEN", x -> x.boughOf(2, 6), 2);
        Edges.leaves("BROKEN ones hold and bear", x -> x.boughOf(2, 4) * 1000 + x.boughOf(2, 5), 74008);
        for (int what : new int[] {-1, 7}) Edges.leaves("what " + what, x -> x.boughOf(0, what), Due.BAD);
        for (int b : new int[] {-1, -9, 5, 9}) Edges.leaves("bough " + b, x -> x.boughOf(b, 0), Due.BAD);
        for (int v : Edges.OUTSIDE) {
            Edges.leaves("what " + v, x -> x.boughOf(0, v), Due.BAD);
            Edges.leaves("bough " + v, x -> x.boughOf(v, 0), Due.BAD);
        }
    }

    private static void change() {
        Edges.says("LONG (what 2), HOLDS (3) of a BOUGH becomes v: what it was. BAD.");
        OakCourt x = Edges.rich();
        Edges.is("LONG 9", x.change(0, 2, 9), 3);
        Edges.is("LONG 1", x.change(0, 2, 1), 9);
        Edges.is("HOLDS 999", x.change(0, 3, 999), 400);
        Edges.is("HOLDS 1", x.change(0, 3, 1), 999);
        Edges.is("of a BROKEN one", x.change(2, 2, 9), 4);
        Edges.is("it stays BROKEN", x.boughOf(2, 6), 2);
        for (int v : new int[] {-1, 0, 10}) Edges.leaves("LONG " + v, y -> y.change(0, 2, v), Due.BAD);
        for (int v : new int[] {-1, 0, 1000}) Edges.leaves("HOLDS " + v, y -> y.change(0, 3, v), Due.BAD);
        for (int what : new int[] {-1, 0, 1, 4, 5, 6}) Edges.leaves("what " + what, y -> y.change(0, what, 1), Due.BAD);
        for (int b : new int[] {-1, 5, 9}) Edges.leaves("bough " + b, y -> y.change(b, 2, 1), Due.BAD);
        for (int v : Edges.OUTSIDE) {
            Edges.leaves("LONG " + v, y -> y.change(0, 2, v), Due.BAD);
            Edges.leaves("HOLDS " + v, y -> y.change(0, 3, v), Due.BAD);
            Edges.leaves("what " + v, y -> y.change(0, v, 1), Due.BAD);
            Edges.leaves("bough " + v, y -> y.change(v, 3, 1), Due.BAD);
        }
    }

    private static void graft() {
        Edges.says("A BOUGH becomes one of another KIND (1 to 5): the KIND that it was. BAD.");
        OakCourt x = Edges.rich();
        Edges.is("to 5", x.graft(0, 5), 1);
        Edges.is("to 1", x.graft(0, 1), 5);
        Edges.is("a BROKEN one", x.graft(2, 4), 3);
        Edges.is("it stays BROKEN", x.boughOf(2, 6), 2);
        for (int kind : new int[] {-1, 0, 6}) Edges.leaves("to " + kind, y -> y.graft(0, kind), Due.BAD);
        for (int b : new int[] {-1, 5, 9}) Edges.leaves("bough " + b, y -> y.graft(b, 2), Due.BAD);
        for (int v : Edges.OUTSIDE) {
            Edges.leaves("to " + v, y -> y.graft(0, v), Due.BAD);
            Edges.leaves("bough " + v, y -> y.graft(v, 2), Due.BAD);
        }
    }

    private static void weather() {
        Edges.says("SAP and WIND are 0 to 9 (0 at first).");
        OakCourt x = new OakCourt();
        for (int what = 0; what < 2; what++) {
            Edges.is("at first", x.weather(what, 9), 0);
            Edges.is("9", x.weather(what, 0), 9);
            Edges.is("0", x.weather(what, 0), 0);
        }
        Edges.says("SAP (what 0), WIND (1) becomes v: what it was. BAD.");
        for (int what = 0; what < 2; what++) {
            int w = what;
            for (int v : new int[] {-1, 10}) Edges.leaves("weather(" + w + ", " + v + ")", y -> y.weather(w, v), Due.BAD);
            for (int v : Edges.OUTSIDE) Edges.leaves("weather(" + w + ", " + v + ")", y -> y.weather(w, v), Due.BAD);
        }
        for (int what : new int[] {-1, 2}) Edges.leaves("what " + what, y -> y.weather(what, 0), Due.BAD);
        for (int what : Edges.OUTSIDE) Edges.leaves("what " + what, y -> y.weather(what, 0), Due.BAD);
    }

    private static void holdsNow() {
        Edges.says("green: h and 10 times SAP. dry: half of h. old: as dry, less LONG (0 at least)."
            + " propped: h and 50. kings: twice as propped.");
        OakCourt x = Due.fiveOnTrunk(9, 999);
        int[] most = {999, 499, 490, 1049, 2098};
        for (int b = 0; b < 5; b++) Edges.is("of 999", x.boughOf(b, 4), most[b]);
        x.weather(0, 9);
        Edges.is("green in SAP 9", x.boughOf(0, 4), 1089);
        OakCourt y = Due.fiveOnTrunk(9, 1);
        int[] least = {1, 0, 0, 51, 102};
        for (int b = 0; b < 5; b++) Edges.is("of 1", y.boughOf(b, 4), least[b]);
        int[][] olds = {{17, 0}, {18, 0}, {19, 0}, {20, 1}, {21, 1}, {22, 2}};
        for (int[] old : olds) {
            y.change(2, 3, old[0]);
            Edges.is("old, 9 LONG, of " + old[0], y.boughOf(2, 4), old[1]);
        }
        Due.rules(y, "bough cut;", 1);
        int[] cut = {0, 0, 0, 50, 100};
        for (int b = 0; b < 5; b++) Edges.is("of 0", y.boughOf(b, 4), cut[b]);
    }

    private static void bearsAndCracks() {
        Edges.says("CRACKS: it isn't BROKEN, and BEARS is more than HOLDS NOW.");
        OakCourt x = Edges.one(100, 100, 1);
        x.sit(0, 0);
        Edges.is("as much", x.boughOf(0, 6) + x.cracks(), 0);
        x.sit(1, 0);
        Edges.is("1 more", x.boughOf(0, 6) + x.cracks(), 2);
        x.fall();
        x.change(0, 3, 1);
        x.weather(1, 2);
        Edges.is("more, but BROKEN", x.boughOf(0, 6) * 10 + x.cracks(), 20);
        OakCourt y = Edges.one(9);
        y.change(0, 2, 9);
        y.weather(1, 1);
        Edges.is("WIND 1, 9 LONG, as much", y.cracks(), 0);
        y.change(0, 3, 8);
        Edges.is("1 more", y.cracks(), 1);
        Due.rules(y, "bough cut;", 1);
        y.weather(1, 0);
        Edges.is("0 bears 0", y.cracks(), 0);
        Edges.says("BEARS: WEIGHT of all who SIT ABOVE it, and WIND times LONG.");
        OakCourt z = Edges.nine(5, 999);
        Edges.is("nobody, no WIND", z.boughOf(8, 5), 0);
        for (int p = 0; p < 8; p++) z.person(200, 0);
        for (int p = 0; p < 8; p++) z.sit(p, 8);
        z.change(8, 2, 9);
        z.weather(1, 9);
        Edges.is("all eight, WIND 9", z.boughOf(8, 5), 1681);
        Edges.is("WIND alone", z.boughOf(7, 5), 9);
    }

    private static void person() {
        Edges.says("PEOPLE, 8 at most, numbered as they come: WEIGHT (1 to 200), SIDE (0, 1), SITS (on a BOUGH, or nowhere, at first).");
        OakCourt x = new OakCourt();
        for (int p = 0; p < 8; p++) {
            Edges.is("person " + p + " ahead of it", x.personOf(p, 0), Due.BAD);
            Edges.is("person " + p, x.person(p % 2 == 0 ? 1 : 200, p / 4), p);
            Edges.is("SITS", x.personOf(p, 2), Due.NO);
        }
        for (int p = 0; p < 8; p++) Edges.is("WEIGHT, SIDE", x.personOf(p, 0) * 10 + x.personOf(p, 1), (p % 2 == 0 ? 10 : 2000) + p / 4);
        Edges.is("a ninth", x.person(1, 0), Due.FULL);
        Edges.is("many", x.many(2), 8);
        Edges.says("A PERSON: the number. BAD; FULL.");
        Edges.leaves("a ninth", Edges::full, y -> y.person(1, 0), Due.FULL);
        for (int w : new int[] {-1, 0, 201}) Edges.leaves("WEIGHT " + w, y -> y.person(w, 0), Due.BAD);
        for (int side : new int[] {-1, 2}) Edges.leaves("SIDE " + side, y -> y.person(1, side), Due.BAD);
        for (int v : Edges.OUTSIDE) {
            Edges.leaves("WEIGHT " + v, y -> y.person(v, 0), Due.BAD);
            Edges.leaves("SIDE " + v, y -> y.person(1, v), Due.BAD);
        }
    }

    private static void personOf() {
        Edges.says("Of a PERSON: what = 0 WEIGHT, 1 SIDE, 2 SITS (-9: nowhere). BAD.");
        int[][] due = {{60, 1, 3}, {90, 0, -9}};
        for (int p = 1; p < 3; p++) {
            for (int what = 0; what < 3; what++) {
                int q = p, w = what;
                Edges.leaves("personOf(" + p + ", " + what + ")", x -> x.personOf(q, w), due[p - 1][what]);
            }
        }
        for (int what : new int[] {-1, 3}) Edges.leaves("what " + what, x -> x.personOf(0, what), Due.BAD);
        for (int p : new int[] {-1, 5, 8}) Edges.leaves("person " + p, x -> x.personOf(p, 0), Due.BAD);
        for (int v : Edges.OUTSIDE) {
            Edges.leaves("what " + v, x -> x.personOf(0, v), Due.BAD);
            Edges.leaves("person " + v, x -> x.personOf(v, 0), Due.BAD);
        }
    }

    private static void sitAndDown() {
        Edges.says("One SITS on a BOUGH then: where it SAT (-9: nowhere). BAD; STATE: it is BROKEN.");
        OakCourt x = Edges.rich();
        Edges.is("from nowhere", x.sit(2, 0), Due.NO);
        Edges.is("from 0 to the same", x.sit(2, 0), 0);
        Edges.is("from 0 to the last", x.sit(2, 4), 0);
        Edges.is("from the last", x.sit(2, 1), 4);
        Edges.leaves("on a BROKEN one", y -> y.sit(0, 2), Due.STATE);
        Edges.leaves("on a BROKEN one, from nowhere", y -> y.sit(2, 2), Due.STATE);
        for (int p : new int[] {-1, 5, 8}) Edges.leaves("person " + p, y -> y.sit(p, 0), Due.BAD);
        for (int b : new int[] {-1, -9, 5, 9}) Edges.leaves("bough " + b, y -> y.sit(0, b), Due.BAD);
        for (int v : Edges.OUTSIDE) {
            Edges.leaves("person " + v, y -> y.sit(v, 0), Due.BAD);
            Edges.leaves("bough " + v, y -> y.sit(0, v), Due.BAD);
        }
        Edges.says("One SITS nowhere then: where it SAT (-9: nowhere). BAD.");
        Edges.is("from 1", x.down(2), 1);
        Edges.is("then", x.personOf(2, 2), Due.NO);
        Edges.is("from nowhere", x.down(2), Due.NO);
        Edges.is("the last of PEOPLE", x.down(4), 4);
        for (int p : new int[] {-1, 5, 8}) Edges.leaves("person " + p, y -> y.down(p), Due.BAD);
        for (int p : Edges.OUTSIDE) Edges.leaves("person " + p, y -> y.down(p), Due.BAD);
    }
}

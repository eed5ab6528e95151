import java.io.IOException;
import java.util.function.ToIntFunction;

/** The edges that the document names, sentence by sentence: what cracks, seating, strangers, winds. */
public final class EdgesOfQuestionsTest {
    public static void main(String[] args) throws IOException {
        Edges.begin(args);
        asksChangeNothing();
        cracks();
        worst();
        fall();
        would();
        standing();
        verdict();
        room();
        best();
        safe();
        prop();
        windFor();
        sapFor();
        seating();
        seat();
        seatAll();
        gameEnds();
        gameValue();
        game();
        move();
        report();
        forget();
        fit();
        span();
        liar();
        seed();
        draw();
        often();
        Edges.end("EdgesOfQuestionsTest");
    }

    private static void asksChangeNothing() {
        Edges.says("What is asked changes nothing, if not told.");
        Edges.leaves("cracks()", x -> x.cracks(), 0);
        Edges.leaves("worst()", x -> x.worst(), 1);
        Edges.leaves("would()", x -> x.would(), 0);
        Edges.leaves("standing(0)", x -> x.standing(0), 110);
        Edges.leaves("verdict()", x -> x.verdict(), 0);
        Edges.leaves("room(0)", x -> x.room(0), 279);
        Edges.leaves("best(0)", x -> x.best(0), 0);
        Edges.leaves("safe(4)", x -> x.safe(4), 1 | 2 | 8);
        Edges.leaves("prop()", x -> x.prop(), Due.NONE);
        Edges.leaves("windFor()", x -> x.windFor(), Due.NONE);
        Edges.leaves("sapFor()", x -> x.sapFor(), 0);
        Edges.leaves("seat(12, 1)", x -> x.seat(12, 1), 0);
        Edges.leaves("game(0, 4)", x -> x.game(0, 4), 2);
        Edges.leaves("move(0, 4)", x -> x.move(0, 4), 0);
        Edges.leaves("span(0)", x -> x.span(0), 120);
        Edges.leaves("liar()", x -> x.liar(), Due.NONE);
        Edges.leaves("often(60)", x -> x.often(60), 0);
        for (ToIntFunction<OakCourt> f : broken()) Edges.leaves("of one that cracks", EdgesOfQuestionsTest::cracking, f, f.applyAsInt(cracking()));
    }

    private static ToIntFunction<OakCourt>[] broken() {
        @SuppressWarnings({"unchecked", "rawtypes"})
        ToIntFunction<OakCourt>[] all = new ToIntFunction[] {
            ask(x -> x.cracks()), ask(x -> x.worst()), ask(x -> x.would()), ask(x -> x.standing(1)), ask(x -> x.verdict()),
            ask(x -> x.room(1)), ask(x -> x.best(3)), ask(x -> x.safe(3)), ask(x -> x.prop()), ask(x -> x.windFor()),
            ask(x -> x.sapFor()), ask(x -> x.seat(9, 0)), ask(x -> x.game(1, 4)), ask(x -> x.move(1, 4)), ask(x -> x.span(1)),
            ask(x -> x.liar()), ask(x -> x.often(33))};
        return all;
    }

    private static ToIntFunction<OakCourt> ask(ToIntFunction<OakCourt> f) {
        return f;
    }

    private static OakCourt cracking() {
        OakCourt x = Edges.rich();
        x.sit(3, 3);
        x.sit(2, 1);
        return x;
    }

    private static void cracks() {
        Edges.says("Those that CRACK, as a set.");
        Edges.is("no BOUGHS", new OakCourt().cracks(), 0);
        OakCourt x = Edges.nine(1, 100);
        x.person(101, 0);
        Edges.is("none", x.cracks(), 0);
        x.sit(0, 0);
        Edges.is("the first", x.cracks(), 1);
        x.sit(0, 8);
        Edges.is("the last", x.cracks(), 256);
        for (int b = 0; b < 9; b++) x.change(b, 2, 9);
        Due.rules(x, "bough cut;", 1);
        x.weather(1, 1);
        Edges.is("all", x.cracks(), 511);
        x.fall();
        Edges.is("all BROKEN", x.cracks(), 0);
    }

    private static void worst() {
        Edges.says("Of those that aren't BROKEN the one of which BEARS less HOLDS NOW is greatest; of several the least. NONE.");
        Edges.is("no BOUGHS", new OakCourt().worst(), Due.NONE);
        OakCourt x = Edges.nine(1, 999);
        Edges.is("of nine the least", x.worst(), 0);
        x.change(8, 3, 998);
        Edges.is("the ninth by 1", x.worst(), 8);
        x.change(7, 3, 998);
        Edges.is("as much", x.worst(), 7);
        x.change(3, 3, 1);
        x.weather(1, 2);
        x.fall();
        Edges.is("not the BROKEN one", x.worst(), 7);
        Due.rules(x, "bough cut;", 1);
        x.fall();
        Edges.is("all BROKEN", x.worst(), Due.NONE);
    }

    private static void fall() {
        Edges.says("FALL: as long as some CRACK: that of which BEARS less HOLDS NOW is greatest, of several the least,"
            + " and all ABOVE it are BROKEN; who SITS on these SITS nowhere.");
        Edges.is("no BOUGHS", new OakCourt().fall(), 0);
        OakCourt x = Edges.nine(1, 1);
        for (int p = 0; p < 8; p++) x.person(2, 0);
        Edges.is("nothing CRACKS", x.fall(), 0);
        for (int p = 0; p < 8; p++) x.sit(p, 8 - p);
        Edges.is("eight of eight", x.fall(), 8);
        for (int b = 0; b < 9; b++) Edges.is("BROKEN " + b, x.boughOf(b, 6), b == 0 ? 0 : 2);
        Edges.is("no more CRACK", x.fall(), 0);
        x.weather(1, 2);
        Edges.is("nobody SITS there", x.fall(), 0);
        Edges.is("but it is BROKEN", x.boughOf(0, 6), 2);
        Edges.is("all are BROKEN", x.fall(), 0);
        OakCourt y = Edges.chain(2, 100);
        y.person(110, 0);
        y.sit(0, 1);
        Edges.is("as much: the least, with all ABOVE it", y.fall(), 1);
        Edges.is("both BROKEN", y.boughOf(0, 6) * 10 + y.boughOf(1, 6), 22);
        OakCourt z = Edges.chain(2, 100);
        z.change(1, 3, 99);
        z.person(110, 0);
        z.sit(0, 1);
        Edges.is("1 more: the higher", z.fall(), 1);
        Edges.is("then the lower no more CRACKS", z.boughOf(0, 6) * 10 + z.boughOf(1, 6), 2);
        Edges.says("A FALL: how many of PEOPLE SIT nowhere by it.");
        OakCourt w = Edges.one(100, 60, 60, 60);
        w.sit(0, 0);
        w.sit(1, 0);
        Edges.is("not who sat nowhere", w.fall(), 2);
    }

    private static void would() {
        Edges.says("How many would by one.");
        Edges.is("no BOUGHS", new OakCourt().would(), 0);
        OakCourt x = Edges.one(100, 100, 1);
        x.sit(0, 0);
        Edges.is("as much", x.would(), 0);
        x.sit(1, 0);
        Edges.is("1 more", x.would(), 2);
        Edges.leaves("two", () -> both(60), y -> y.would(), 2);
        Edges.is("and they do", x.fall(), 2);
        Edges.is("no more", x.would(), 0);
    }

    /** Two people of such a weight on one bough that holds 100. */
    private static OakCourt both(int weight) {
        OakCourt x = Edges.one(100, weight, weight);
        x.sit(0, 0);
        x.sit(1, 0);
        return x;
    }

    private static void standing() {
        Edges.says("STANDING of a SIDE: WEIGHT of those of it who SIT on a BOUGH, after a FALL.");
        Edges.is("nobody", new OakCourt().standing(0) + new OakCourt().standing(1), 0);
        Edges.is("50 and 50", both(50).standing(0) * 1000 + both(50).standing(1), 50050);
        Edges.is("51 and 51", both(51).standing(0) + both(51).standing(1), 0);
        OakCourt x = Edges.nine(5, 999);
        for (int p = 0; p < 8; p++) x.person(200, 1);
        for (int p = 0; p < 8; p++) x.sit(p, 8);
        Edges.is("1600", x.standing(1), 1600);
        Edges.is("0 of the other", x.standing(0), 0);
        Edges.says("STANDING of a SIDE. BAD.");
        for (int side : new int[] {-1, 2}) Edges.leaves("SIDE " + side, y -> y.standing(side), Due.BAD);
        for (int side : Edges.OUTSIDE) Edges.leaves("SIDE " + side, y -> y.standing(side), Due.BAD);
    }

    private static void verdict() {
        Edges.says("The SIDE of which more is STANDING; 2: as much of both.");
        Edges.is("nobody", new OakCourt().verdict(), 2);
        Edges.is("50 and 50", both(50).verdict(), 2);
        OakCourt x = Edges.one(200, 50, 51);
        x.sit(0, 0);
        Edges.is("50 and 0", x.verdict(), 0);
        x.sit(1, 0);
        Edges.is("50 and 51", x.verdict(), 1);
        x.person(2, 0);
        x.sit(2, 0);
        Edges.is("52 and 51", x.verdict(), 0);
        x.person(1, 1);
        x.sit(3, 0);
        Edges.is("52 and 52", x.verdict(), 2);
        x.change(0, 3, 103);
        Edges.is("all fall", x.verdict(), 2);
        OakCourt y = Edges.nine(1, 50);
        y.person(51, 0);
        y.person(50, 1);
        y.sit(0, 0);
        y.sit(1, 1);
        Edges.is("the heavier falls", y.verdict(), 1);
    }

    private static void room() {
        Edges.says("ROOM of a BOUGH: the least HOLDS NOW less BEARS of all BOUGHS that it is ABOVE; 0 if that is below 0.");
        OakCourt x = Edges.chain(9, 100);
        x.person(100, 0);
        Edges.is("the highest of nine", x.room(8), 100);
        x.change(0, 3, 50);
        Edges.is("by the lowest", x.room(8), 50);
        x.change(8, 3, 49);
        Edges.is("by itself", x.room(8), 49);
        Edges.is("not by what is ABOVE it", x.room(7), 50);
        Edges.is("the lowest", x.room(0), 50);
        x.change(0, 3, 100);
        x.sit(0, 0);
        Edges.is("just 0", x.room(0), 0);
        x.weather(1, 9);
        Edges.is("below 0", x.room(0) + x.room(8), 0);
        Edges.says("ROOM. BAD; STATE: it is BROKEN.");
        Edges.leaves("a BROKEN one", y -> y.room(2), Due.STATE);
        for (int b : new int[] {-1, -9, 5, 9}) Edges.leaves("bough " + b, y -> y.room(b), Due.BAD);
        for (int b : Edges.OUTSIDE) Edges.leaves("bough " + b, y -> y.room(b), Due.BAD);
        Edges.is("no BOUGHS", new OakCourt().room(0), Due.BAD);
    }

    private static void best() {
        Edges.says("The BOUGH (not BROKEN) with the most ROOM if one SAT nowhere; of several the least. BAD; NONE: there is none.");
        OakCourt x = Edges.nine(1, 100);
        x.person(100, 0);
        x.person(100, 0);
        Edges.is("of nine the least", x.best(0), 0);
        x.sit(1, 0);
        Edges.is("of eight", x.best(0), 1);
        Edges.is("if it SAT nowhere", x.best(1), 0);
        x.change(8, 3, 101);
        Edges.is("the ninth by 1", x.best(0), 8);
        Due.rules(x, "bough cut;", 1);
        Edges.is("no ROOM at all: the least", x.best(0), 0);
        x.fall();
        Edges.is("the first that isn't BROKEN", x.best(0), 1);
        x.weather(1, 1);
        x.fall();
        Edges.is("all BROKEN", x.best(0), Due.NONE);
        OakCourt none = new OakCourt();
        none.person(1, 0);
        Edges.is("no BOUGHS", none.best(0), Due.NONE);
        for (int p : new int[] {-1, 5, 8}) Edges.leaves("person " + p, y -> y.best(p), Due.BAD);
        for (int p : Edges.OUTSIDE) Edges.leaves("person " + p, y -> y.best(p), Due.BAD);
    }

    private static void safe() {
        Edges.says("BOUGHS (not BROKEN) on which one might SIT (not where it does now) so that nothing CRACKS, as a set. BAD.");
        OakCourt x = Edges.nine(1, 100);
        x.person(100, 0);
        x.person(101, 0);
        Edges.is("as much", x.safe(0), 511);
        Edges.is("1 more", x.safe(1), 0);
        x.sit(0, 0);
        Edges.is("not where it does now", x.safe(0), 510);
        x.sit(1, 1);
        Edges.is("something CRACKS elsewhere", x.safe(0), 0);
        Edges.is("but not without this one", x.safe(1), 0);
        x.change(8, 3, 101);
        Edges.is("then the ninth", x.safe(1), 256);
        x.fall();
        Edges.is("not the BROKEN one", x.safe(0), 508);
        OakCourt none = new OakCourt();
        none.person(1, 0);
        Edges.is("no BOUGHS", none.safe(0), 0);
        for (int p : new int[] {-1, 5, 8}) Edges.leaves("person " + p, y -> y.safe(p), Due.BAD);
        for (int p : Edges.OUTSIDE) Edges.leaves("person " + p, y -> y.safe(p), Due.BAD);
    }

    private static void prop() {
        Edges.says("The BOUGH that, were it of KIND propped, would let most be STANDING of both SIDES (more than now);"
            + " of several the least. NONE.");
        Edges.is("no BOUGHS", new OakCourt().prop(), Due.NONE);
        OakCourt x = Edges.nine(1, 100);
        for (int p = 0; p < 8; p++) x.person(150, p % 2);
        Edges.is("nobody SITS", x.prop(), Due.NONE);
        x.sit(0, 8);
        Edges.is("the ninth, as much", x.prop(), 8);
        x.sit(1, 4);
        Edges.is("of several the least", x.prop(), 4);
        x.person(1, 0);
        x.change(4, 3, 99);
        Edges.is("1 too much for it", x.prop(), 8);
        x.change(8, 3, 99);
        Edges.is("for both", x.prop(), Due.NONE);
        x.change(8, 3, 150);
        Edges.is("all the rest stands: not more than now", x.prop(), Due.NONE);
        OakCourt y = Edges.nine(1, 100);
        y.person(101, 0);
        y.person(102, 1);
        y.sit(0, 1);
        y.sit(1, 2);
        Edges.is("1 more", y.prop(), 2);
        y.sit(0, 0);
        y.fall();
        Edges.is("BROKEN", y.prop(), Due.NONE);
    }

    private static void windFor() {
        Edges.says("The least WIND (0 to 9) with which something CRACKS (THE RULES ask by it, too). NONE.");
        Edges.is("no BOUGHS", new OakCourt().windFor(), Due.NONE);
        for (int wind = 0; wind <= 10; wind++) {
            OakCourt x = Edges.one(100, 100 - wind + 1, 1);
            x.weather(1, 9 - Math.min(wind, 9));
            x.sit(0, 0);
            Edges.is(wind + " cracks it", x.windFor(), wind <= 9 ? wind : Due.NONE);
        }
        OakCourt y = Edges.nine(1, 1);
        for (int wind = 0; wind <= 9; wind++) {
            OakCourt x = Edges.one(100, 1);
            x.sit(0, 0);
            Due.rules(x, "bough if wind = " + wind + " cut;", 1);
            Edges.is("by THE RULES", x.windFor(), wind);
        }
        y.weather(1, 9);
        y.fall();
        Edges.is("all BROKEN", y.windFor(), Due.NONE);
    }

    private static void sapFor() {
        Edges.says("The least SAP (0 to 9) with which nothing CRACKS (THE RULES ask by it, too). NONE.");
        Edges.is("no BOUGHS", new OakCourt().sapFor(), 0);
        for (int sap = 0; sap <= 10; sap++) {
            OakCourt x = Edges.one(100, 100 + 10 * sap);
            x.weather(0, 9 - Math.min(sap, 9));
            x.sit(0, 0);
            Edges.is(sap + " as much", x.sapFor(), sap <= 9 ? sap : Due.NONE);
            x.change(0, 3, 99);
            Edges.is(sap + " and 1 more", x.sapFor(), sap < 9 ? sap + 1 : Due.NONE);
        }
        for (int sap = 0; sap <= 9; sap++) {
            OakCourt x = Edges.one(100, 100);
            x.sit(0, 0);
            Due.rules(x, "bough if not sap = " + sap + " less 99;", 1);
            Edges.is("by THE RULES", x.sapFor(), sap);
        }
    }

    private static void seating() {
        setOfFour();
        Edges.says("BOUGHS that aren't BROKEN, one for each, by which nothing CRACKS; the first by numbers (of the least of PEOPLE first).");
        OakCourt x = Edges.nine(1, 100);
        for (int w : new int[] {100, 50, 50, 50}) x.person(w, 0);
        int[] first = {0, 1, 1, 2};
        for (int i = 0; i < 4; i++) Edges.is("as much", x.seat(15, i), first[i]);
        x.change(0, 3, 99);
        int[] second = {1, 0, 2, 2};
        for (int i = 0; i < 4; i++) Edges.is("1 too much on 0", x.seat(15, i), second[i]);
        x.person(101, 0);
        x.sit(4, 8);
        Edges.is("another CRACKS something", x.seat(1, 0), Due.NONE);
        x.fall();
        x.change(0, 3, 1);
        for (int b = 1; b < 7; b++) x.change(b, 3, 1);
        Edges.is("the eighth", x.seat(1, 0), 7);
        x.change(7, 3, 99);
        Edges.is("the ninth is BROKEN", x.seat(1, 0), Due.NONE);
        OakCourt y = Edges.one(200, 100, 100, 1);
        y.sit(2, 0);
        Edges.is("others SIT as they do", y.seat(3, 0), Due.NONE);
        Edges.is("those of the set don't", y.seat(6, 1), 0);
        y.down(2);
        Edges.is("as much", y.seat(3, 1), 0);
        OakCourt none = new OakCourt();
        none.person(1, 0);
        Edges.is("no BOUGHS", none.seat(1, 0), Due.NONE);
    }

    private static void setOfFour() {
        Edges.says("SEATING of a set of PEOPLE (4 at most; all others SIT as they do)");
        OakCourt x = Edges.nine(1, 4);
        for (int p = 0; p < 8; p++) x.person(1, 0);
        Edges.is("four on one", x.seat(0xf0, 3), 0);
        Edges.is("five", x.seat(0xf1, 0), Due.BAD);
        Edges.is("all eight", x.seat(0xff, 0), Due.BAD);
        x.sit(0, 0);
        Edges.is("another SITS there", x.seat(0xf0, 3), 1);
        Edges.is("three beside it", x.seat(0xf0, 2), 0);
    }

    private static void seat() {
        Edges.says("On which BOUGH the i-th (0 to 3) of a set is by SEATING."
            + " BAD: also a set with others, or of more; NONE: there is no SEATING, or it has not so many.");
        for (int i : new int[] {-1, 4}) Edges.leaves("i " + i, x -> x.seat(12, i), Due.BAD);
        for (int i : Edges.OUTSIDE) Edges.leaves("i " + i, x -> x.seat(12, i), Due.BAD);
        for (int set : new int[] {31, 32, 33, 256, -1, Edges.MIN, Edges.MAX, Edges.MIN | 1}) {
            Edges.leaves("set " + set, x -> x.seat(set, 0), Due.BAD);
        }
        Edges.leaves("five of eight", Edges::full, x -> x.seat(0xf8, 0), Due.BAD);
        Edges.leaves("four of eight", Edges::full, x -> x.seat(0xf0, 3), 0);
        Edges.leaves("a ninth", Edges::full, x -> x.seat(0x100, 0), Due.BAD);
        for (int many = 0; many < 4; many++) {
            int set = (1 << many) - 1, i = many;
            Edges.leaves("number " + many + " of so many", x -> x.seat(set, i), Due.NONE);
        }
        Edges.leaves("there is no SEATING", () -> Edges.one(1, 2), x -> x.seat(1, 0), Due.NONE);
    }

    private static void seatAll() {
        Edges.says("They SIT so: how many. BAD likewise; NONE.");
        for (int set : new int[] {31, 32, 33, 256, -1, Edges.MIN, Edges.MAX, Edges.MIN | 1}) {
            Edges.leaves("set " + set, x -> x.seatAll(set), Due.BAD);
        }
        Edges.leaves("five of eight", Edges::full, x -> x.seatAll(0x1f), Due.BAD);
        Edges.leaves("NONE", () -> both(60), x -> x.seatAll(3), Due.NONE);
        Edges.leaves("nobody", x -> x.seatAll(0), 0);
        OakCourt x = Edges.nine(1, 100);
        for (int p = 0; p < 8; p++) x.person(100, 0);
        for (int p = 0; p < 8; p++) x.sit(p, 8 - p);
        Edges.is("the last four", x.seatAll(0xf0), 4);
        for (int p = 0; p < 8; p++) Edges.is("SITS " + p, x.personOf(p, 2), p < 4 ? 8 - p : p - 4);
        OakCourt y = both(60);
        Edges.is("NONE for one beside another", y.seatAll(1), Due.NONE);
        Edges.is("SITS still", y.personOf(0, 2), 0);
    }

    private static void gameEnds() {
        Edges.says("If one has nobody to seat or there is no such BOUGH, or n moves are made, nobody has.");
        Edges.is("nobody, no BOUGHS", new OakCourt().game(0, 4), 2);
        OakCourt x = Edges.one(1, 2);
        Edges.is("1 has nobody", x.game(1, 4), 2);
        Edges.is("0 has one, who CRACKS it", x.game(0, 1), 1);
        Edges.is("1 has nobody first", x.game(1, 2), 2);
        x.sit(0, 0);
        Edges.is("all SIT", x.game(0, 4), 2);
        x.down(0);
        x.weather(1, 2);
        x.fall();
        Edges.is("no such BOUGH", x.game(0, 4), 2);
        for (int n = 1; n <= 4; n++) {
            OakCourt y = Edges.one(n, 1, 1, 1, 1, 1);
            Edges.is("as much by " + n + " moves", y.game(0, n), 2);
            if (n < 4) Edges.is("one more move", y.game(0, n + 1), n % 2 == 0 ? 1 : 0);
        }
    }

    private static void gameValue() {
        Edges.says("(to win rather than that nobody does, and that rather than to lose); 2: nobody.");
        OakCourt x = Edges.nine(1, 1);
        x.person(50, 0);
        x.person(60, 1);
        x.change(7, 3, 59);
        x.change(8, 3, 60);
        Edges.is("to win rather than that nobody does", x.move(0, 2), 8);
        Edges.is("VALUE", x.game(0, 2), 0);
        x.change(7, 3, 110);
        Edges.is("that rather than to lose", x.move(0, 2), 7);
        Edges.is("VALUE", x.game(0, 2), 2);
        x.change(7, 3, 50);
        x.change(8, 3, 1);
        Edges.is("there 1 can't SIT any more", x.game(0, 2), 0);
        x.change(7, 3, 49);
        Edges.is("to lose, where all do", x.move(0, 2), 0);
        Edges.is("VALUE", x.game(0, 2), 1);
        theirLeast();
        Edges.says("who lets it CRACK anywhere has lost.");
        OakCourt y = Edges.nine(1, 10);
        y.person(11, 0);
        y.person(1, 1);
        y.person(1, 0);
        y.sit(0, 8);
        Edges.is("it CRACKS already", y.game(1, 1) * 10 + y.game(0, 1), 1);
        Edges.is("a later move is none", y.game(1, 4) * 10 + y.game(0, 4), 1);
    }

    private static void theirLeast() {
        Edges.says("GAME of n moves: SIDES in turn, a told one first, let the least of their PEOPLE who SITS nowhere SIT"
            + " on a BOUGH that isn't BROKEN;");
        OakCourt x = Edges.nine(1, 10);
        for (int w : new int[] {11, 10, 10}) x.person(w, 0);
        Edges.is("0 is too heavy", x.game(0, 1), 1);
        x.change(8, 3, 11);
        Edges.is("but for the ninth", x.move(0, 1), 8);
        x.sit(0, 8);
        Edges.is("then it is 1", x.move(0, 1), 0);
        x.sit(1, 0);
        Edges.is("then 2", x.move(0, 1), 1);
        x.sit(2, 1);
        Edges.is("then nobody", x.move(0, 1), Due.NONE);
        x.down(0);
        Edges.is("0 again, and 8 again", x.move(0, 1), 8);
        x.change(8, 3, 1);
        x.weather(1, 2);
        x.fall();
        x.weather(1, 0);
        x.change(8, 3, 11);
        Edges.is("8 is BROKEN", x.game(0, 1), 1);
    }

    private static void game() {
        Edges.says("VALUE of a GAME of n moves (1 to 4), a SIDE first. BAD.");
        for (int v : new int[] {-1, 2}) Edges.leaves("SIDE " + v, x -> x.game(v, 1), Due.BAD);
        for (int v : new int[] {-1, 0, 5}) Edges.leaves("of " + v, x -> x.game(0, v), Due.BAD);
        for (int v : Edges.OUTSIDE) {
            Edges.leaves("SIDE " + v, x -> x.game(v, 1), Due.BAD);
            Edges.leaves("of " + v, x -> x.game(0, v), Due.BAD);
        }
        Edges.is("BAD, of no BOUGHS, too", new OakCourt().game(0, 0), Due.BAD);
    }

    private static void move() {
        Edges.says("The least BOUGH with which that SIDE's first move leads to this VALUE. BAD; NONE: it can't make one.");
        Edges.is("nobody, no BOUGHS", new OakCourt().move(0, 4), Due.NONE);
        OakCourt x = Edges.nine(1, 1);
        x.person(1, 0);
        Edges.is("nobody of that SIDE", x.move(1, 1), Due.NONE);
        Edges.is("of nine the least", x.move(0, 4), 0);
        x.sit(0, 0);
        Edges.is("all SIT", x.move(0, 1), Due.NONE);
        x.down(0);
        Due.rules(x, "bough if not number = 8 cut;", 1);
        Edges.is("the ninth", x.move(0, 1), 8);
        Due.rules(x, "bough cut;", 1);
        Edges.is("where all lose, the least", x.move(0, 1), 0);
        Due.rules(x, "bough if number = 0 cut;", 1);
        x.weather(1, 1);
        x.fall();
        Edges.is("not a BROKEN one", x.move(0, 1), 1);
        x.weather(1, 2);
        x.fall();
        Edges.is("all BROKEN", x.move(0, 1), Due.NONE);
        for (int v : new int[] {-1, 2}) Edges.leaves("SIDE " + v, y -> y.move(v, 1), Due.BAD);
        for (int v : new int[] {-1, 0, 5}) Edges.leaves("of " + v, y -> y.move(0, v), Due.BAD);
        for (int v : Edges.OUTSIDE) {
            Edges.leaves("SIDE " + v, y -> y.move(v, 1), Due.BAD);
            Edges.leaves("of " + v, y -> y.move(0, v), Due.BAD);
        }
    }

    private static void report() {
        Edges.says("A REPORT (6 at most)");
        OakCourt x = Edges.one(100);
        for (int r = 0; r < 6; r++) Edges.is("report " + r, x.report(0, r % 2), r);
        Edges.is("a seventh", x.report(0, 0), Due.FULL);
        Edges.is("many", x.many(3), 6);
        Edges.says("A REPORT: its number. BAD; FULL.");
        Edges.leaves("a seventh", Edges::full, y -> y.report(0, 1), Due.FULL);
        for (int b : new int[] {-1, -9, 5, 9}) Edges.leaves("bough " + b, y -> y.report(b, 0), Due.BAD);
        for (int c : new int[] {-1, 2}) Edges.leaves("cracked " + c, y -> y.report(0, c), Due.BAD);
        for (int v : Edges.OUTSIDE) {
            Edges.leaves("bough " + v, y -> y.report(v, 0), Due.BAD);
            Edges.leaves("cracked " + v, y -> y.report(0, v), Due.BAD);
        }
        Edges.is("no BOUGHS", new OakCourt().report(0, 0), Due.BAD);
        Edges.is("of a BROKEN one", Edges.rich().report(2, 1), 3);
    }

    private static void forget() {
        Edges.says("There are no REPORTS: how many there were.");
        OakCourt x = Edges.one(100);
        Edges.is("none", x.forget(), 0);
        for (int r = 0; r < 6; r++) x.report(0, 1);
        Edges.is("all six", x.forget(), 6);
        Edges.is("none any more", x.forget() + x.many(3), 0);
        Edges.is("all FIT", x.span(0), 200);
        Edges.is("from 0 again", x.report(0, 0), 0);
    }

    private static void fits(String what, OakCourt x, int many, int least, int greatest) {
        Edges.is(what + ", how many", x.span(0), many);
        Edges.is(what + ", the least", x.span(1), many == 0 ? Due.NONE : least);
        Edges.is(what + ", the greatest", x.span(2), many == 0 ? Due.NONE : greatest);
    }

    /** One bough that holds as told, and a report of it. */
    private static OakCourt reported(int holds, int cracked) {
        OakCourt x = Edges.one(holds);
        x.report(0, cracked);
        return x;
    }

    private static void fit() {
        Edges.says("those of 1 to 200 which, added to what is borne by all BOUGHS that one is ABOVE (all else as it is now),"
            + " let it CRACK somewhere, or not, as each REPORT says (one on a BOUGH that is BROKEN now is never so).");
        fits("no REPORTS", new OakCourt(), 200, 1, 200);
        fits("100 didn't", reported(100, 0), 100, 1, 100);
        fits("100 did", reported(100, 1), 100, 101, 200);
        fits("199 did", reported(199, 1), 1, 200, 200);
        fits("200 did", reported(200, 1), 0, 0, 0);
        fits("200 didn't", reported(200, 0), 200, 1, 200);
        fits("1 didn't", reported(1, 0), 1, 1, 1);
        fits("1 did", reported(1, 1), 199, 2, 200);
        OakCourt x = reported(1, 0);
        x.weather(1, 1);
        fits("0 is left: it didn't", x, 0, 0, 0);
        x.report(0, 1);
        x.forget();
        x.report(0, 1);
        fits("0 is left: it did", x, 200, 1, 200);
        x.weather(1, 2);
        fits("it CRACKS already: it did", x, 200, 1, 200);
        x.report(0, 0);
        fits("it CRACKS already: it didn't", x, 0, 0, 0);
        x.forget();
        x.fall();
        x.report(0, 1);
        fits("BROKEN: it did", x, 0, 0, 0);
        x.forget();
        x.report(0, 0);
        fits("BROKEN: it didn't", x, 0, 0, 0);
        OakCourt y = reported(100, 0);
        y.report(0, 1);
        fits("both", y, 0, 0, 0);
        y.change(0, 3, 99);
        fits("as it is now, both", y, 0, 0, 0);
        OakCourt z = Edges.chain(9, 200);
        z.report(8, 1);
        fits("200 all the way down", z, 0, 0, 0);
        z.change(0, 3, 199);
        fits("CRACKS somewhere", z, 1, 200, 200);
        z.report(1, 0);
        fits("1 is ABOVE 0, too", z, 0, 0, 0);
    }

    private static void span() {
        Edges.says("WEIGHTS that FIT: what = 0 how many, 1 the least, 2 the greatest. BAD; NONE: there are none.");
        for (int what : new int[] {-1, 3}) Edges.leaves("what " + what, x -> x.span(what), Due.BAD);
        for (int what : Edges.OUTSIDE) Edges.leaves("what " + what, x -> x.span(what), Due.BAD);
        fits("there are none", reported(200, 1), 0, 0, 0);
        fits("there is one", reported(199, 1), 1, 200, 200);
    }

    private static void liar() {
        Edges.says("LIAR: if none FITS, the least REPORT but for which some would.");
        OakCourt x = reported(200, 1);
        Edges.is("but for the one", x.liar(), 0);
        x.report(0, 1);
        Edges.is("but for neither", x.liar(), Due.NONE);
        OakCourt y = Edges.nine(1, 100);
        for (int b = 0; b < 5; b++) y.report(b, 0);
        y.change(5, 3, 200);
        y.report(5, 1);
        Edges.is("the sixth", y.liar(), 5);
        y.change(5, 3, 99);
        Edges.is("one FITS", y.liar(), Due.NONE);
        y.change(5, 3, 100);
        Edges.is("five against one", y.liar(), 5);
        OakCourt z = reported(100, 1);
        z.report(0, 0);
        Edges.is("of both the least", z.liar(), 0);
        Edges.says("LIAR. NONE: some FIT; or there is no such REPORT.");
        Edges.is("no REPORTS", new OakCourt().liar(), Due.NONE);
        Edges.is("some FIT", reported(100, 0).liar(), Due.NONE);
        z.report(0, 0);
        Edges.is("two against one", z.liar(), 0);
        z.report(0, 1);
        Edges.is("two against two", z.liar(), Due.NONE);
    }

    private static void seed() {
        Edges.says("z becomes v: what it was.");
        OakCourt x = new OakCourt();
        int was = 1;
        for (int v : new int[] {0, -1, Edges.MIN, Edges.MAX, 1}) {
            Edges.is("seed(" + v + ")", x.seed(v), was);
            was = v;
        }
        Edges.is("a refusal it isn't", x.seed(-4) + x.seed(-1) + x.seed(0), 1 - 4 - 1);
    }

    private static void draw() {
        Edges.says("DRAWN: z (an int; 1 at first) becomes z * 1103515245 + 12345: WIND becomes (z >>> 16) modulo 10.");
        OakCourt x = new OakCourt();
        Edges.is("z at first", x.draw(), 8);
        Edges.is("1103527590", x.seed(0), 1103527590);
        Edges.is("of 0", x.draw(), 0);
        Edges.is("12345", x.seed(-1), 12345);
        Edges.is("of -1, below 0", x.draw(), 7);
        Edges.is("-1103502900", x.seed(Edges.MAX), -1103502900);
        Edges.is("of the greatest, which wraps", x.draw(), 9);
        Edges.is("1043980748", x.seed(Edges.MIN), 1043980748);
        Edges.is("of the least, which wraps", x.draw(), 8);
        Edges.is("-2147471303", x.seed(0), -2147471303);
        Edges.is("WIND", x.weather(1, 0), 8);
        Edges.says("DRAWN: WIND then.");
        x.seed(1);
        for (int i = 0; i < 9; i++) Edges.is("draw " + i, x.draw(), x.weather(1, i));
    }

    private static void often() {
        Edges.says("How many of n (1 to 60) WINDS, DRAWN one behind the other, let something CRACK (z and WIND are in the end what they were). BAD.");
        OakCourt x = Edges.one(1, 1);
        x.change(0, 2, 9);
        x.sit(0, 0);
        Edges.is("WIND 8 does", x.often(1), 1);
        x.change(0, 3, 73);
        Edges.is("not as much", x.often(1), 0);
        x.change(0, 3, 72);
        Edges.is("1 more", x.often(1), 1);
        x.change(0, 3, 1);
        x.weather(1, 4);
        x.person(2, 0);
        x.sit(1, 0);
        Edges.is("all of 60", x.often(60), 60);
        Edges.is("z", x.seed(1), 1);
        Edges.is("WIND", x.weather(1, 4), 4);
        x.fall();
        Edges.is("none of 60", x.often(60), 0);
        for (int n : new int[] {-1, 0, 61}) Edges.leaves(n + " WINDS", y -> y.often(n), Due.BAD);
        for (int n : Edges.OUTSIDE) Edges.leaves(n + " WINDS", y -> y.often(n), Due.BAD);
        Edges.is("no BOUGHS", new OakCourt().often(60), 0);
    }
}

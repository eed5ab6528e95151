/** Promises 49 and 50: what is kept, and what isn't. */
public final class KeptTest {
    public static void main(String[] args) {
        all();
        latest();
        notKept();
        twoObjects();
        Due.end("KeptTest");
    }

    private static OakCourt whole() {
        OakCourt x = Due.tower();
        x.person(60, 0);
        x.person(40, 1);
        x.sit(0, 3);
        x.fall();
        x.sit(0, 1);
        x.weather(0, 2);
        x.weather(1, 3);
        x.report(2, 1);
        x.report(1, 0);
        x.seed(77);
        Due.rules(x, "green if number = 2 and not (sap = 1 or wind = 2) less 30; dry more 7;", 2);
        return x;
    }

    private static void all() {
        OakCourt x = whole();
        String was = Due.state(x);
        int fits = x.span(0), often = x.often(40), first = x.span(1);
        Due.is("49 keep", x.keep(), 1);
        Due.same("keep", was, Due.state(x));
        x.bough(5, 0, 2, 2);
        x.person(9, 1);
        x.change(0, 2, 5);
        x.change(0, 3, 5);
        x.graft(1, 4);
        x.weather(0, 7);
        x.weather(1, 7);
        x.seed(5);
        x.forget();
        x.report(0, 1);
        x.sit(1, 2);
        x.down(0);
        x.fall();
        Due.rules(x, "bough cut;", 1);
        Due.is("50 again", x.again(), 4);
        Due.same("again", was, Due.state(x));
        Due.is("50 THE RULES", x.boughOf(2, 4), 90);
        Due.is("50 THE REPORTS", x.span(0) * 1000 + x.span(1), fits * 1000 + first);
        Due.is("50 z", x.often(40), often);
        Due.rules(x, "", 0);
        x.fall();
        x.sit(0, 0);
        Due.is("50 it stays", x.again(), 4);
        Due.same("again", was, Due.state(x));
        Due.is("2 BROKEN stays so", x.bough(1, 3, 1, 1), Due.STATE);
        Due.is("2 ON goes on", x.bough(1, 2, 1, 50), 4);
        x.sit(0, 4);
        Due.is("3 BEARS", x.boughOf(1, 5), 63);
    }

    private static void latest() {
        OakCourt x = whole();
        Due.is("50 NONE", x.again(), Due.NONE);
        x.keep();
        x.bough(1, 0, 1, 1);
        x.keep();
        x.bough(1, 0, 1, 1);
        Due.is("50 the latest", x.again(), 5);
        OakCourt y = new OakCourt();
        y.keep();
        y.bough(1, -1, 1, 1);
        y.person(1, 0);
        Due.is("50 an empty one", y.again(), 0);
        Due.is("50 nobody", y.many(2), 0);
    }

    private static void notKept() {
        OakCourt x = whole();
        x.sheet(0, 2, 3);
        x.write(0, 1, 5);
        x.shelf(0, 0, 1);
        x.prove(2);
        x.feed(0x3b74756320797264L, 4);
        x.act(0, 1, 5);
        x.keep();
        x.write(0, 2, 6);
        x.sheet(1, 0, 1);
        x.shelf(1, 0, 2);
        x.prove(0);
        x.alterRow(0, 1, 9);
        x.feed(0x3b747563L, 4);
        x.act(0, 0, 5);
        x.again();
        Due.is("49 SHEETS", x.item(0, 2, 2), 6);
        Due.is("49 SHEETS", x.item(1, 0, 0), 0);
        Due.is("49 SHELVES", x.taken(1, 0), 2);
        Due.is("49 ROWS", x.many(4), 1);
        Due.is("49 ROWS", x.row(0, 1), 9);
        Due.is("49 THE TRACE", x.many(6), 2);
        Due.is("49 THE TAPE", x.many(5), 8);
        Due.is("49 THE TAPE tells", x.rules(), 1);
    }

    /** Nothing is shared between objects. */
    private static void twoObjects() {
        OakCourt x = whole();
        OakCourt y = new OakCourt();
        String was = Due.state(x);
        y.bough(2, -1, 1, 1);
        Due.rules(y, "dry cut;", 1);
        y.person(1, 1);
        y.keep();
        Due.same("calls on another", was, Due.state(x));
        Due.is("50 nothing is kept", x.again(), Due.NONE);
    }
}

/** Promises 1 to 6: a new object, boughs, weather. */
public final class OakTest {
    public static void main(String[] args) {
        newObject();
        boughs();
        boughRefusals();
        boughOf();
        holdsNow();
        change();
        graft();
        weather();
        Due.end("OakTest");
    }

    private static void newObject() {
        OakCourt x = new OakCourt();
        for (int k = 0; k < 7; k++) Due.is("1 many(" + k + ")", x.many(k), 0);
        Due.is("1 again", x.again(), Due.NONE);
        Due.is("1 worst", x.worst(), Due.NONE);
        Due.is("1 cracks", x.cracks(), 0);
        Due.is("1 fall", x.fall(), 0);
        Due.is("1 verdict", x.verdict(), 2);
        Due.is("1 z", x.seed(1), 1);
        Due.is("1 sap", x.weather(0, 0), 0);
        Due.is("1 wind", x.weather(1, 0), 0);
        Due.is("1 a sheet", x.item(3, 0, 0), -11);
        Due.is("1 a shelf", x.taken(3, 0), -11);
        Due.is("1 judge", x.judge(), 0);
        Due.is("1 trace", x.trace(0), Due.NONE);
        Due.is("1 span", x.span(0), 200);
    }

    private static void boughs() {
        OakCourt x = new OakCourt();
        for (int b = 0; b < 9; b++) {
            Due.is("2 bough " + b, x.bough(1 + b % 5, b - 1, 1 + b, 1 + 100 * b), b);
        }
        Due.is("2 the tenth", x.bough(1, -1, 1, 1), Due.FULL);
        Due.is("2 BAD ahead of FULL", x.bough(0, -1, 1, 1), Due.BAD);
        Due.is("2 many", x.many(0), 9);
        for (int b = 0; b < 9; b++) {
            Due.is("3 KIND", x.boughOf(b, 0), 1 + b % 5);
            Due.is("3 ON", x.boughOf(b, 1), b == 0 ? Due.NO : b - 1);
            Due.is("3 LONG", x.boughOf(b, 2), 1 + b);
            Due.is("3 HOLDS", x.boughOf(b, 3), 1 + 100 * b);
        }
        OakCourt y = new OakCourt();
        Due.is("2 the greatest", y.bough(5, -1, 9, 999), 0);
        Due.is("2 the least", y.bough(1, 0, 1, 1), 1);
    }

    private static void boughRefusals() {
        OakCourt x = Due.tower();
        String was = Due.state(x);
        int[][] bad = {{0, -1, 1, 1}, {6, -1, 1, 1}, {-1, -1, 1, 1}, {1, -2, 1, 1}, {1, 4, 1, 1}, {1, 9, 1, 1}, {1, -9, 1, 1},
            {1, 0, 0, 1}, {1, 0, 10, 1}, {1, 0, -1, 1}, {1, 0, 1, 0}, {1, 0, 1, 1000}, {1, 0, 1, -1}};
        for (int[] c : bad) Due.is("2 BAD " + java.util.Arrays.toString(c), x.bough(c[0], c[1], c[2], c[3]), Due.BAD);
        for (int v : Due.OUTSIDE_INTS) {
            Due.is("2 BAD kind", x.bough(v, 0, 1, 1), Due.BAD);
            Due.is("2 BAD on", x.bough(1, v, 1, 1), Due.BAD);
            Due.is("2 BAD length", x.bough(1, 0, v, 1), Due.BAD);
            Due.is("2 BAD holds", x.bough(1, 0, 1, v), Due.BAD);
        }
        Due.same("bough's refusals", was, Due.state(x));
        x.person(150, 0);
        x.sit(0, 2);
        x.fall();
        Due.is("2 STATE", x.bough(1, 2, 1, 1), Due.STATE);
        Due.is("2 BAD ahead of STATE", x.bough(1, 2, 0, 1), Due.BAD);
        for (int b = 4; b < 9; b++) x.bough(1, 1, 1, 1);
        Due.is("2 FULL ahead of STATE", x.bough(1, 2, 1, 1), Due.FULL);
        Due.is("2 not BROKEN at first", x.boughOf(8, 6), 0);
    }

    private static void boughOf() {
        OakCourt x = Due.tower();
        x.person(60, 0);
        x.person(70, 1);
        x.sit(0, 2);
        x.sit(1, 1);
        Due.is("3 BEARS of 0", x.boughOf(0, 5), 130);
        Due.is("3 BEARS of 1", x.boughOf(1, 5), 130);
        Due.is("3 BEARS of 2", x.boughOf(2, 5), 60);
        Due.is("3 BEARS of 3", x.boughOf(3, 5), 0);
        x.weather(1, 7);
        x.change(1, 2, 9);
        Due.is("3 BEARS in WIND", x.boughOf(1, 5), 130 + 63);
        Due.is("3 only its own LONG", x.boughOf(0, 5), 137);
        Due.is("3 holds", x.boughOf(1, 6), 0);
        x.weather(1, 8);
        Due.is("3 BEARS more", x.boughOf(1, 5), 202);
        Due.is("3 CRACKS", x.boughOf(1, 6), 1);
        x.fall();
        Due.is("3 BROKEN", x.boughOf(1, 6), 2);
        Due.is("3 BROKEN above", x.boughOf(2, 6), 2);
        Due.is("3 not below", x.boughOf(0, 6), 0);
        Due.is("3 BEARS when BROKEN", x.boughOf(1, 5), 72);
        Due.is("3 BAD bough", x.boughOf(4, 0), Due.BAD);
        Due.is("3 BAD bough", x.boughOf(-1, 0), Due.BAD);
        Due.is("3 BAD what", x.boughOf(0, 7), Due.BAD);
        Due.is("3 BAD what", x.boughOf(0, -1), Due.BAD);
        for (int v : Due.OUTSIDE_INTS) {
            Due.is("3 BAD bough", x.boughOf(v, 0), Due.BAD);
            Due.is("3 BAD what", x.boughOf(0, v), Due.BAD);
        }
        exact();
    }

    /** CRACKS is more than, not as much as. */
    private static void exact() {
        OakCourt x = Due.tower();
        x.person(50, 0);
        x.sit(0, 3);
        Due.is("3 as much doesn't crack", x.boughOf(3, 6), 0);
        x.weather(1, 1);
        Due.is("3 one more cracks", x.boughOf(3, 6), 1);
    }

    private static void holdsNow() {
        OakCourt x = Due.fiveOnTrunk(9, 201);
        int[] due = {201, 100, 91, 251, 502};
        for (int b = 0; b < 5; b++) Due.is("3 HOLDS NOW of " + b, x.boughOf(b, 4), due[b]);
        x.weather(0, 9);
        Due.is("3 green by SAP", x.boughOf(0, 4), 291);
        for (int b = 1; b < 5; b++) Due.is("3 others without", x.boughOf(b, 4), due[b]);
        OakCourt y = Due.fiveOnTrunk(9, 17);
        Due.is("3 old 0 at least", y.boughOf(2, 4), 0);
        Due.is("3 dry cut towards 0", y.boughOf(1, 4), 8);
        y.change(2, 3, 19);
        Due.is("3 old of 19", y.boughOf(2, 4), 0);
        y.change(2, 3, 20);
        Due.is("3 old of 20", y.boughOf(2, 4), 1);
    }

    private static void change() {
        OakCourt x = Due.tower();
        Due.is("4 LONG", x.change(0, 2, 9), 1);
        Due.is("4 LONG again", x.change(0, 2, 1), 9);
        Due.is("4 HOLDS", x.change(0, 3, 999), 300);
        Due.is("4 HOLDS again", x.change(0, 3, 1), 999);
        Due.is("4 HOLDS now", x.boughOf(0, 3), 1);
        String was = Due.state(x);
        int[][] bad = {{-1, 2, 1}, {4, 2, 1}, {0, 0, 1}, {0, 1, 1}, {0, 4, 1}, {0, 2, 0}, {0, 2, 10}, {0, 3, 0}, {0, 3, 1000}};
        for (int[] c : bad) Due.is("4 BAD", x.change(c[0], c[1], c[2]), Due.BAD);
        for (int v : Due.OUTSIDE_INTS) {
            Due.is("4 BAD", x.change(v, 2, 1), Due.BAD);
            Due.is("4 BAD", x.change(0, v, 1), Due.BAD);
            Due.is("4 BAD", x.change(0, 2, v), Due.BAD);
            Due.is("4 BAD", x.change(0, 3, v), Due.BAD);
        }
        Due.same("change's refusals", was, Due.state(x));
    }

    private static void graft() {
        OakCourt x = Due.tower();
        for (int kind = 2; kind <= 5; kind++) Due.is("5 graft", x.graft(1, kind), kind - 1);
        Due.is("5 KIND", x.boughOf(1, 0), 5);
        Due.is("5 holds as such", x.boughOf(1, 4), 500);
        Due.is("5 HOLDS stays", x.boughOf(1, 3), 200);
        Due.is("5 ON stays", x.boughOf(1, 1), 0);
        Due.is("5 back", x.graft(1, 1), 5);
        String was = Due.state(x);
        Due.is("5 BAD", x.graft(4, 1), Due.BAD);
        Due.is("5 BAD", x.graft(-1, 1), Due.BAD);
        Due.is("5 BAD", x.graft(0, 0), Due.BAD);
        Due.is("5 BAD", x.graft(0, 6), Due.BAD);
        for (int v : Due.OUTSIDE_INTS) {
            Due.is("5 BAD", x.graft(v, 1), Due.BAD);
            Due.is("5 BAD", x.graft(0, v), Due.BAD);
        }
        Due.same("graft's refusals", was, Due.state(x));
    }

    private static void weather() {
        OakCourt x = Due.tower();
        Due.is("6 SAP", x.weather(0, 9), 0);
        Due.is("6 SAP again", x.weather(0, 3), 9);
        Due.is("6 WIND", x.weather(1, 9), 0);
        Due.is("6 WIND again", x.weather(1, 2), 9);
        Due.is("6 by both", x.boughOf(0, 4) * 1000 + x.boughOf(0, 5), 330002);
        String was = Due.state(x);
        int[][] bad = {{2, 0}, {-1, 0}, {0, 10}, {0, -1}, {1, 10}, {1, -1}};
        for (int[] c : bad) Due.is("6 BAD", x.weather(c[0], c[1]), Due.BAD);
        for (int v : Due.OUTSIDE_INTS) {
            Due.is("6 BAD", x.weather(v, 1), Due.BAD);
            Due.is("6 BAD", x.weather(0, v), Due.BAD);
            Due.is("6 BAD", x.weather(1, v), Due.BAD);
        }
        Due.same("weather's refusals", was, Due.state(x));
    }
}

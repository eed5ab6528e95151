/** Promises 40 to 48: sheets, climbs, shelves, acts, THE TRACE, how many. */
public final class HostTest {
    public static void main(String[] args) {
        sheet();
        write();
        item();
        climbs();
        climbRefusals();
        shelf();
        taken();
        acts();
        traces();
        parted();
        noAct();
        many();
        Due.end("HostTest");
    }

    private static void sheet() {
        OakCourt x = new OakCourt();
        for (int s = 0; s < 4; s++) {
            for (int sort = 0; sort < 5; sort++) {
                Due.is("40 sheet", x.sheet(s, sort, 40), 1);
                Due.is("42 0 at first", x.item(s, sort, 39), 0);
                Due.is("42 40 items", x.item(s, sort, 40), -12);
            }
        }
        Due.is("40 none", x.sheet(0, 2, 0), 1);
        Due.is("42 no item", x.item(0, 2, 0), -12);
        x.sheet(1, 2, 3);
        x.write(1, 1, 5);
        Due.is("40 anew", x.sheet(1, 2, 3), 1);
        Due.is("42 all 0", x.item(1, 2, 1), 0);
        x.write(1, 0, 5);
        x.sheet(1, 2, 3);
        Due.is("42 all 0", x.item(1, 2, 0), 0);
        x.write(1, 1, 5);
        int[][] bad = {{-1, 0, 1}, {4, 0, 1}, {1, -2, 1}, {1, 5, 1}, {1, 0, 41}, {4, 0, -1}, {1, 5, -1}};
        for (int[] c : bad) Due.is("40 BAD", x.sheet(c[0], c[1], c[2]), Due.BAD);
        Due.is("40 -14", x.sheet(1, 0, -1), -14);
        Due.is("40 -14", x.sheet(1, 4, Integer.MIN_VALUE), -14);
        for (int v : Due.OUTSIDE_INTS) {
            Due.is("40 BAD", x.sheet(v, 0, 1), Due.BAD);
            Due.is("40 BAD", x.sheet(1, v, 1), Due.BAD);
            Due.is("40 BAD or -14", x.sheet(1, 0, v), v > 0 ? Due.BAD : -14);
        }
        Due.is("40 refusals change nothing", x.item(1, 2, 1), 5);
        Due.is("40 missing", x.sheet(1, -1, 99), 1);
        Due.is("42 missing", x.item(1, 2, 1), -11);
        Due.is("40 missing, n counts nothing", x.sheet(1, -1, -99), 1);
        Due.is("40 BAD sheet", x.sheet(4, -1, 0), Due.BAD);
    }

    private static void write() {
        OakCourt x = new OakCourt();
        int[] values = {0, 1, -1, 127, 128, 255, 256, -129, 32767, 32768, 65535, 65536, -32769, Integer.MAX_VALUE, Integer.MIN_VALUE};
        for (int sort = 0; sort < 5; sort++) {
            x.sheet(0, sort, 2);
            for (int v : values) {
                int due = sort == 0 ? (byte) v : sort == 1 ? (short) v : sort == 4 ? v != 0 ? 1 : 0 : v;
                Due.is("41 write", x.write(0, 1, v), 1);
                Due.is("42 item of " + v, x.item(0, sort, 1), due);
                Due.is("42 the other", x.item(0, sort, 0), 0);
            }
        }
        Due.is("41 BAD", x.write(4, 0, 1), Due.BAD);
        Due.is("41 BAD", x.write(-1, 0, 1), Due.BAD);
        Due.is("41 -11", x.write(1, 0, 1), -11);
        Due.is("41 -11 ahead of -12", x.write(1, -1, 1), -11);
        Due.is("41 -12", x.write(0, 2, 1), -12);
        Due.is("41 -12", x.write(0, -1, 1), -12);
        for (int v : Due.OUTSIDE_INTS) {
            Due.is("41 BAD", x.write(v, 0, 1), Due.BAD);
            Due.is("41 -12", x.write(0, v, 1), -12);
        }
    }

    private static void item() {
        OakCourt x = new OakCourt();
        for (int sort = 0; sort < 5; sort++) {
            x.sheet(0, sort, 3);
            x.write(0, 0, 1);
            for (int as = 0; as < 5; as++) {
                Due.is("42 of " + sort + " as " + as, x.item(0, as, 0), as == sort ? 1 : -13);
                Due.is("42 -13 ahead of -12", x.item(0, as, 3), as == sort ? -12 : -13);
            }
        }
        int[][] bad = {{-1, 0, 0}, {4, 0, 0}, {0, -1, 0}, {0, 5, 0}, {1, 5, 0}};
        for (int[] c : bad) Due.is("42 BAD", x.item(c[0], c[1], c[2]), Due.BAD);
        for (int v : Due.OUTSIDE_INTS) {
            Due.is("42 BAD", x.item(v, 0, 0), Due.BAD);
            Due.is("42 BAD", x.item(0, v, 0), Due.BAD);
            Due.is("42 -12", x.item(0, 4, v), -12);
            Due.is("42 -11 ahead of -12", x.item(1, 4, v), -11);
        }
        Due.is("42 -12", x.item(0, 4, -1), -12);
    }

    private static OakCourt climber(int... items) {
        OakCourt x = Due.tower();
        x.person(60, 0);
        x.sheet(2, 0, items.length);
        for (int i = 0; i < items.length; i++) x.write(2, i, items[i]);
        return x;
    }

    private static void climbs() {
        OakCourt x = climber(2, 1, 4, -1, 3, 0, 3, 3);
        Due.is("43 two", x.climbs(0, 2, 0, 2), 2);
        Due.is("10 the last", x.personOf(0, 2), 1);
        Due.is("43 those there are not are left out", x.climbs(0, 2, 1, 4), 2);
        Due.is("10 the last", x.personOf(0, 2), 3);
        Due.is("43 none", x.climbs(0, 2, 2, 2), 0);
        Due.is("10 stays", x.personOf(0, 2), 3);
        Due.is("43 one behind the other", x.climbs(0, 2, 4, 4), 4);
        Due.is("15 fall", x.fall(), 1);
        Due.is("43 BROKEN ones are left out", x.climbs(0, 2, 4, 4), 1);
        Due.is("10 on 0", x.personOf(0, 2), 0);
        Due.is("43 no items", x.climbs(0, 2, 0, 0), 0);
        Due.is("43 no items from outside", x.climbs(0, 2, 99, 0), 0);
        x.sit(0, 2);
        Due.is("43 -12", x.climbs(0, 2, 5, 4), -12);
        Due.is("43 what stood ahead was done", x.personOf(0, 2), 0);
        Due.is("43 -12 at once", x.climbs(0, 2, 8, 1), -12);
        OakCourt y = climber(new int[40]);
        Due.is("43 twenty", y.climbs(0, 2, 20, 20), 20);
        Due.is("43 one too far", y.climbs(0, 2, 21, 20), -12);
    }

    private static void climbRefusals() {
        OakCourt x = climber(2, 1, 0);
        int[][] bad = {{-1, 2, 0, 1}, {1, 2, 0, 1}, {0, -1, 0, 1}, {0, 4, 0, 1}, {0, 2, 0, -1}, {0, 2, 0, 21}, {0, 0, 0, 21}};
        for (int[] c : bad) Due.is("43 BAD", x.climbs(c[0], c[1], c[2], c[3]), Due.BAD);
        for (int v : Due.OUTSIDE_INTS) {
            Due.is("43 BAD", x.climbs(v, 2, 0, 1), Due.BAD);
            Due.is("43 BAD", x.climbs(0, v, 0, 1), Due.BAD);
            Due.is("43 BAD", x.climbs(0, 2, 0, v), Due.BAD);
            Due.is("43 -12", x.climbs(0, 2, v, 20), -12);
        }
        Due.is("43 -12", x.climbs(0, 2, -1, 2), -12);
        Due.is("43 -11", x.climbs(0, 0, 0, 1), -11);
        Due.is("43 -11 ahead of -12", x.climbs(0, 0, -1, 1), -11);
        for (int s : new int[] {0, 1, 3}) {
            Due.is("43 -11 of no items", x.climbs(0, s, 0, 0), -11);
            Due.is("43 -11 of no items from outside", x.climbs(0, s, -1, 0), -11);
        }
        Due.is("43 BAD ahead of -11", x.climbs(1, 0, 0, 0), Due.BAD);
        x.sheet(3, 0, 0);
        Due.is("43 no items of none", x.climbs(0, 3, 0, 0), 0);
        Due.is("43 one of none", x.climbs(0, 3, 0, 1), -12);
        x.sheet(3, -1, 0);
        Due.is("43 missing again", x.climbs(0, 3, 0, 0), -11);
        for (int sort = 1; sort < 5; sort++) {
            x.sheet(1, sort, 1);
            Due.is("43 -13", x.climbs(0, 1, 0, 1), -13);
            Due.is("43 -13 ahead of -12", x.climbs(0, 1, 9, 1), -13);
            Due.is("43 -13 of no items", x.climbs(0, 1, 0, 0), -13);
        }
        Due.is("10 nowhere", x.personOf(0, 2), Due.NO);
    }

    private static void shelf() {
        OakCourt x = Due.fiveOnTrunk(7, 100);
        Due.is("44 a bough", x.shelf(0, 0, 4), 1);
        x.sheet(2, 3, 6);
        Due.is("44 a row", x.shelf(1, 1, 2), 1);
        Due.is("44 a missing one", x.shelf(2, 1, 3), 1);
        Due.is("45 nothing", x.taken(2, 12), -11);
        Due.is("44 nothing", x.shelf(3, 2, 0), 1);
        int[][] bad = {{-1, 0, 0}, {4, 0, 0}, {0, 3, 0}, {0, -1, 0}, {0, 0, 5}, {0, 0, -1}, {0, 1, 4}, {0, 1, -1}};
        for (int[] c : bad) Due.is("44 BAD", x.shelf(c[0], c[1], c[2]), Due.BAD);
        for (int v : Due.OUTSIDE_INTS) {
            Due.is("44 BAD", x.shelf(v, 0, 0), Due.BAD);
            Due.is("44 BAD", x.shelf(0, v, 0), Due.BAD);
            Due.is("44 BAD", x.shelf(0, 0, v), Due.BAD);
            Due.is("44 BAD", x.shelf(0, 1, v), Due.BAD);
        }
        Due.is("44 refusals change nothing", x.taken(0, 5), 4);
        x.sheet(2, 0, 1);
        Due.is("44 the row stays", x.taken(1, 13), 6);
        x.sheet(2, -1, 0);
        Due.is("44 the row stays", x.taken(1, 13), 6);
        x.sheet(3, 2, 9);
        Due.is("44 what was missing is nothing", x.taken(2, 12), -11);
        Due.is("44 nothing then", x.shelf(0, 2, 77), 1);
        Due.is("45 nothing", x.taken(0, 0), -11);
        Due.is("44 in place of it", x.shelf(1, 0, 2), 1);
        Due.is("45 a bough", x.taken(1, 3), 2);
    }

    private static void taken() {
        OakCourt x = Due.fiveOnTrunk(7, 100);
        boolean[][] is = {
            {true, true, false, false, false, false}, {true, false, true, false, false, false},
            {true, false, true, true, false, false}, {true, false, false, false, true, false},
            {true, false, false, false, true, true}};
        for (int b = 0; b < 5; b++) {
            x.shelf(1, 0, b);
            for (int as = 0; as < 6; as++) Due.is("45 " + b + " as " + as, x.taken(1, as), is[b][as] ? b : -13);
            for (int as = 10; as < 15; as++) Due.is("45 a bough as a row", x.taken(1, as), -13);
        }
        for (int sort = 0; sort < 5; sort++) {
            x.sheet(0, sort, sort * 10);
            x.shelf(2, 1, 0);
            for (int as = 0; as < 6; as++) Due.is("45 a row as a KIND", x.taken(2, as), -13);
            for (int as = 10; as < 15; as++) Due.is("45 a row", x.taken(2, as), as == sort + 10 ? sort * 10 : -13);
        }
        for (int as : new int[] {-1, 6, 7, 9, 15}) Due.is("45 BAD", x.taken(2, as), Due.BAD);
        for (int v : Due.OUTSIDE_INTS) {
            Due.is("45 BAD", x.taken(v, 0), Due.BAD);
            Due.is("45 BAD", x.taken(2, v), Due.BAD);
        }
        Due.is("45 BAD", x.taken(4, 0), Due.BAD);
        Due.is("45 BAD", x.taken(-1, 0), Due.BAD);
        Due.is("45 BAD ahead of -11", x.taken(3, 6), Due.BAD);
        for (int as : new int[] {0, 5, 10, 14}) Due.is("45 -11", x.taken(3, as), -11);
        x.keep();
        x.bough(3, -1, 1, 1);
        x.shelf(3, 0, 5);
        Due.is("45 there is", x.taken(3, 2), 5);
        x.again();
        Due.is("45 not at the time", x.taken(3, 2), -11);
        x.bough(1, -1, 1, 1);
        Due.is("45 by its number", x.taken(3, 1), 5);
        x.graft(5, 4);
        Due.is("45 by its KIND of now", x.taken(3, 1), -13);
    }

    private static void acts(OakCourt x, int b, int what, int in, int due, int... bodies) {
        x.shelf(0, 0, b);
        Due.is("46 act " + what + " of " + b, x.act(0, what, in), due);
        for (int i = 0; i < bodies.length; i++) Due.is("47 of " + what + " of " + b, x.trace(i), bodies[i]);
        Due.is("47 the end", x.trace(bodies.length), Due.NONE);
        Due.is("48 bodies", x.many(6), bodies.length);
    }

    /** a is 7; n is 0 to 4 for green, dry, old, propped, kings. */
    private static void acts() {
        OakCourt x = Due.fiveOnTrunk(7, 100);
        acts(x, 0, 0, 5, 15, 20, 10);
        acts(x, 0, 1, 5, 30, 11, 20, 10);
        acts(x, 0, 2, 50, 7, 12);
        acts(x, 0, 3, 5, 30 ^ 7, 13, 11, 20, 10);
        acts(x, 1, 0, 5, 6, 10);
        acts(x, 1, 1, 5, 5, 30, 11, 10);
        acts(x, 1, 2, -13, -2, 12);
        acts(x, 1, 3, 5, 5 ^ 7, 13, 30, 11, 10);
        acts(x, 2, 0, 5, 7 ^ 2, 50, 10);
        acts(x, 2, 1, 5, 3, 30, 11, 50, 10);
        acts(x, 2, 2, 9, 1, 12);
        acts(x, 2, 3, 5, (3 ^ 7), 51, 13, 30, 11, 50, 10, 12);
        acts(x, 2, 3, 50, (54 * 2 - 7) ^ 7, 51, 13, 30, 11, 50, 10, 12);
        acts(x, 3, 0, 5, 8, 10);
        acts(x, 3, 1, 5, 16, 11, 10);
        acts(x, 3, 2, 7, 2, 40, 12);
        acts(x, 3, 3, 5, 16 ^ 7, 13, 11, 10);
        acts(x, 4, 0, 5, 9, 10);
        acts(x, 4, 1, 5, -18, 60, 11, 10);
        acts(x, 4, 2, 8, 3 + 11, 61, 40, 12, 10);
        acts(x, 4, 3, 5, -18 ^ 7, 13, 60, 11, 10);
    }

    private static void traces() {
        OakCourt x = Due.fiveOnTrunk(7, 100);
        acts(x, 0, 0, Integer.MAX_VALUE, Integer.MAX_VALUE * 3, 20, 10);
        acts(x, 1, 0, Integer.MAX_VALUE, Integer.MIN_VALUE, 10);
        acts(x, 1, 1, Integer.MAX_VALUE, -7, 30, 11, 10);
        acts(x, 3, 2, Integer.MAX_VALUE, Integer.MIN_VALUE / 4, 40, 12);
        x.change(1, 2, 9);
        x.change(1, 2, 1);
        x.change(2, 2, 1);
        acts(x, 2, 2, Integer.MIN_VALUE, Integer.MIN_VALUE, 12);
        acts(x, 2, 2, 5, -5, 12);
        x.change(0, 2, 2);
        acts(x, 0, 2, -7, -3, 12);
        for (int v : Due.OUTSIDE_INTS) Due.is("47 NONE", x.trace(v), Due.NONE);
        Due.is("47 NONE", x.trace(-1), Due.NONE);
        Due.is("47 NONE", x.trace(30), Due.NONE);
        x.graft(0, 3);
        acts(x, 0, 0, 5, 5, 50, 10);
        Due.is("47 stays", x.trace(0) + x.many(0) + x.cracks() + x.trace(1), 65);
    }

    private static void parted() {
        OakCourt x = Due.fiveOnTrunk(4, 100);
        acts(x, 4, 2, 5, -15, 61, 40, 12);
        acts(x, 4, 3, 5, -18 ^ 4, 13, 60, 11, 10);
        x.change(3, 2, 3);
        acts(x, 3, 2, 5, -15, 40, 12);
        x.change(2, 2, 3);
        acts(x, 2, 3, 5, (((5 + 2) ^ 2) * 2 - 3 ^ 3) + 2, 51, 13, 30, 11, 50, 10, 12);
        x.change(2, 2, 2);
        acts(x, 2, 2, 5, -15, 12);
        acts(x, 2, 3, 5, -15, 51, 13, 30, 11, 50, 10, 12);
        acts(x, 2, 1, 5, 8, 30, 11, 50, 10);
        x.change(1, 2, 1);
        acts(x, 1, 2, 0, -15, 12);
        x.change(1, 2, 2);
        acts(x, 1, 2, 7, 7, 12);
    }

    private static void noAct() {
        OakCourt x = Due.fiveOnTrunk(7, 100);
        x.sheet(0, 0, 5);
        x.shelf(1, 1, 0);
        int[][] none = {{2, 0}, {1, 0}, {-1, 0}, {4, 0}, {0, -1}, {0, 4}};
        for (int[] c : none) {
            acts(x, 0, 0, 5, 15, 20, 10);
            Due.is("46 0", x.act(c[0], c[1], 9), 0);
            Due.is("46 no TRACE", x.many(6), 0);
            Due.is("47 NONE", x.trace(0), Due.NONE);
        }
        for (int v : Due.OUTSIDE_INTS) {
            Due.is("46 0", x.act(v, 0, 9), 0);
            Due.is("46 0", x.act(0, v, 9), 0);
        }
        x.keep();
        x.bough(1, -1, 1, 1);
        x.shelf(0, 0, 5);
        Due.is("46 there is", x.act(0, 0, 9), 42);
        x.again();
        Due.is("46 no such one at the time", x.act(0, 0, 9), 0);
        Due.is("46 no TRACE", x.many(6), 0);
    }

    private static void many() {
        OakCourt x = Due.fiveOnTrunk(7, 100);
        x.person(1, 0);
        x.person(1, 0);
        Due.rules(x, "dry cut; dry cut; dry cut;", 3);
        for (int r = 0; r < 4; r++) x.report(0, 0);
        x.prove(0);
        x.feed(0, 6);
        x.shelf(0, 0, 2);
        x.act(0, 3, 5);
        int[] due = {5, 3, 2, 4, 1, 6, 7};
        for (int k = 0; k < 7; k++) Due.is("48 many(" + k + ")", x.many(k), due[k]);
        Due.is("48 BAD", x.many(7), Due.BAD);
        Due.is("48 BAD", x.many(-1), Due.BAD);
        for (int v : Due.OUTSIDE_INTS) Due.is("48 BAD", x.many(v), Due.BAD);
    }
}

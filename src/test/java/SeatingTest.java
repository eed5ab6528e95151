/** Promises 25 to 28: SEATING and the GAME. */
public final class SeatingTest {
    public static void main(String[] args) {
        seat();
        seatRefusals();
        seatAll();
        emptySet();
        gameValues();
        gameEnds();
        gameOnCracks();
        deepGame();
        gameRefusals();
        Due.end("SeatingTest");
    }

    private static void seats(String what, OakCourt x, int set, int... due) {
        for (int i = 0; i < 4; i++) Due.is("25 " + what + " " + i, x.seat(set, i), i < due.length ? due[i] : Due.NONE);
    }

    private static void seat() {
        OakCourt x = Due.tower();
        for (int w : new int[] {200, 90, 60, 100, 51}) x.person(w, 0);
        seats("one", x, 1, 0);
        seats("the first by numbers", x, 2 | 4, 0, 0);
        seats("in all 300", x, 1 | 8, 0, 0);
        seats("beyond 300", x, 1 | 2 | 4);
        seats("300 and 50", x, 1 | 4 | 16);
        x.change(3, 3, 51);
        seats("300 and 51", x, 1 | 8 | 16, 0, 0, 3);
        seats("the least of PEOPLE first", x, 1 | 2 | 16, 0, 0, 3);
        x.sit(0, 3);
        seats("one of the set who sits", x, 1, 0);
        seats("others sit as they do", x, 2);
        x.sit(0, 0);
        seats("others sit as they do", x, 8, 0);
        seats("others sit as they do", x, 2 | 16, 0, 3);
        x.sit(3, 2);
        x.sit(4, 1);
        seats("others that crack it", x, 2);
        x.down(4);
        x.change(0, 3, 1);
        seats("who cracks it is seated elsewhere", x, 1);
        x.fall();
        seats("not on BROKEN ones", x, 16, 3);
        Due.is("10 nobody sits by it", x.personOf(4, 2), Due.NO);
        four();
    }

    private static void four() {
        OakCourt x = new OakCourt();
        for (int b = 0; b < 9; b++) x.bough(2, -1, 1, 2 * (10 + b));
        for (int w : new int[] {18, 17, 18, 16}) x.person(w, 0);
        seats("the last places", x, 3, 8, 7);
        seats("two for one place", x, 15);
        seats("three", x, 2 | 4 | 8, 7, 8, 6);
        x.change(0, 3, 36);
        seats("four", x, 15, 0, 7, 8, 6);
        Due.is("26 four", x.seatAll(15), 4);
        for (int p = 0; p < 4; p++) Due.is("10 sits", x.personOf(p, 2), new int[] {0, 7, 8, 6}[p]);
        for (int p = 0; p < 4; p++) x.down(p);
        for (int b = 0; b < 9; b++) x.change(b, 3, 32);
        seats("none", x, 15);
        seats("the lightest", x, 8, 0);
    }

    private static void seatRefusals() {
        OakCourt x = Due.tower();
        for (int p = 0; p < 5; p++) x.person(1, 0);
        String was = Due.state(x);
        int[] bad = {31, 32, 33, 1 << 8, -1, Integer.MIN_VALUE, Integer.MAX_VALUE, Integer.MIN_VALUE | 1};
        for (int set : bad) {
            Due.is("25 BAD set", x.seat(set, 0), Due.BAD);
            Due.is("26 BAD set", x.seatAll(set), Due.BAD);
        }
        for (int i : Due.OUTSIDE_INTS) Due.is("25 BAD i", x.seat(1, i), Due.BAD);
        Due.is("25 BAD i", x.seat(1, 4), Due.BAD);
        Due.is("25 BAD i", x.seat(1, -1), Due.BAD);
        Due.same("seat's refusals", was, Due.state(x));
        Due.is("25 not so many", x.seat(3, 2), Due.NONE);
        Due.is("25 no boughs", new OakCourt().seat(0, 0), Due.NONE);
        Due.is("25 nobody", new OakCourt().seat(1, 0), Due.BAD);
        OakCourt y = Due.tower();
        for (int p = 0; p < 8; p++) y.person(1, 0);
        Due.is("25 the last four", y.seat(0xf0, 3), 0);
        for (int p = 0; p < 8; p++) y.sit(p, 0);
        value(y, 0, 4, 2, Due.NONE);
        y.down(7);
        value(y, 0, 4, 2, 0);
        Due.is("25 no ninth", y.seat(0x1f0 & ~16, 0), Due.BAD);
    }

    private static void seatAll() {
        OakCourt x = Due.tower();
        for (int w : new int[] {200, 100, 50, 1}) x.person(w, 0);
        Due.is("26 two", x.seatAll(3), 2);
        Due.is("10 sits", x.personOf(0, 2), 0);
        Due.is("10 sits", x.personOf(1, 2), 0);
        Due.is("10 sits nowhere", x.personOf(2, 2), Due.NO);
        Due.is("26 one more", x.seatAll(4), 1);
        Due.is("10 sits", x.personOf(2, 2), 3);
        Due.is("26 NONE", x.seatAll(8), Due.NONE);
        Due.is("10 none moved", x.personOf(3, 2), Due.NO);
        x.sit(2, 2);
        Due.is("26 who sits is seated anew", x.seatAll(12), Due.NONE);
        Due.is("10 none moved", x.personOf(2, 2), 2);
        x.down(1);
        Due.is("26 then", x.seatAll(12), 2);
        Due.is("10 moved", x.personOf(2, 2), 0);
    }

    private static void emptySet() {
        OakCourt x = Due.tower();
        Due.is("26 nobody is seated", x.seatAll(0), 0);
        Due.is("25 nobody is seated", x.seat(0, 0), Due.NONE);
        x.change(0, 3, 1);
        x.weather(1, 2);
        Due.is("26 something cracks as it is", x.seatAll(0), Due.NONE);
        Due.is("26 no boughs", new OakCourt().seatAll(0), 0);
    }

    private static void value(OakCourt x, int side, int n, int value, int move) {
        String was = Due.state(x);
        Due.is("27 game(" + side + ", " + n + ")", x.game(side, n), value);
        Due.is("28 move(" + side + ", " + n + ")", x.move(side, n), move);
        Due.same("game", was, Due.state(x));
    }

    /** One bough of each that bears 100 and 60. */
    private static void gameValues() {
        OakCourt x = new OakCourt();
        x.bough(1, -1, 1, 100);
        x.bough(1, -1, 1, 60);
        x.person(50, 0);
        x.person(90, 1);
        value(x, 0, 1, 2, 0);
        value(x, 0, 2, 0, 0);
        value(x, 1, 2, 2, 0);
        value(x, 1, 1, 2, 0);
        x.person(80, 0);
        value(x, 0, 3, 0, 0);
        value(x, 0, 4, 0, 0);
        value(x, 1, 3, 2, 0);
        OakCourt y = new OakCourt();
        y.bough(1, -1, 1, 100);
        y.bough(1, -1, 1, 60);
        y.person(60, 0);
        y.person(100, 1);
        y.person(60, 0);
        y.person(1, 1);
        value(y, 0, 2, 0, 0);
        value(y, 1, 2, 2, 0);
        value(y, 1, 3, 0, 0);
        value(y, 1, 4, 0, 0);
        value(y, 0, 3, 0, 0);
    }

    private static void gameEnds() {
        OakCourt none = new OakCourt();
        none.person(1, 0);
        value(none, 0, 4, 2, Due.NONE);
        value(none, 1, 4, 2, Due.NONE);
        OakCourt x = Due.tower();
        value(x, 0, 1, 2, Due.NONE);
        x.person(200, 0);
        x.sit(0, 0);
        value(x, 0, 3, 2, Due.NONE);
        x.person(101, 0);
        value(x, 0, 1, 1, 0);
        value(x, 1, 3, 2, Due.NONE);
        x.person(100, 1);
        value(x, 1, 1, 2, 0);
        x.person(1, 0);
        x.person(1, 0);
        x.sit(1, 3);
        x.fall();
        value(x, 0, 1, 1, 0);
        x.change(0, 3, 301);
        value(x, 0, 1, 2, 0);
        value(x, 1, 1, 2, 0);
        value(x, 0, 2, 0, 0);
        x.change(0, 3, 1);
        x.fall();
        value(x, 0, 4, 2, Due.NONE);
    }

    private static void gameOnCracks() {
        OakCourt x = Due.tower();
        x.person(51, 0);
        x.person(1, 1);
        x.person(1, 0);
        x.sit(0, 3);
        value(x, 1, 1, 0, 0);
        value(x, 0, 1, 1, 0);
        value(x, 0, 4, 1, 0);
        x.fall();
        value(x, 0, 4, 2, 0);
    }

    /** The least of the PEOPLE moves, and the first move that leads to the VALUE may be a later BOUGH. */
    private static void deepGame() {
        OakCourt x = new OakCourt();
        x.bough(1, -1, 1, 120);
        x.bough(1, -1, 1, 70);
        x.bough(1, 1, 1, 65);
        x.person(70, 0);
        x.person(50, 1);
        x.person(50, 0);
        x.person(65, 1);
        value(x, 0, 1, 2, 0);
        value(x, 0, 2, 2, 0);
        value(x, 0, 3, 2, 0);
        value(x, 0, 4, 0, 0);
        x.change(0, 3, 119);
        value(x, 0, 4, 0, 1);
        value(x, 1, 4, 1, 0);
    }

    private static void gameRefusals() {
        OakCourt x = Due.tower();
        x.person(1, 0);
        int[][] bad = {{-1, 1}, {2, 1}, {0, 0}, {0, 5}, {0, -1}};
        for (int[] c : bad) {
            Due.is("27 BAD", x.game(c[0], c[1]), Due.BAD);
            Due.is("28 BAD", x.move(c[0], c[1]), Due.BAD);
        }
        for (int v : Due.OUTSIDE_INTS) {
            Due.is("27 BAD", x.game(v, 1), Due.BAD);
            Due.is("27 BAD", x.game(0, v), Due.BAD);
            Due.is("28 BAD", x.move(v, 1), Due.BAD);
            Due.is("28 BAD", x.move(0, v), Due.BAD);
        }
        Due.is("28 BAD ahead of NONE", new OakCourt().move(0, 0), Due.BAD);
    }
}

/** Promises 13 to 24: what cracks, who falls, which side stands, where one may sit, what is propped. */
public final class CracksTest {
    public static void main(String[] args) {
        cracksAndWorst();
        fall();
        fallOrder();
        standing();
        room();
        best();
        safe();
        prop();
        windFor();
        sapFor();
        Due.end("CracksTest");
    }

    private static void cracksAndWorst() {
        OakCourt x = Due.tower();
        Due.is("13 none", x.cracks(), 0);
        Due.is("14 least spare", x.worst(), 3);
        x.change(2, 3, 50);
        Due.is("14 of several the least", x.worst(), 2);
        x.person(200, 0);
        x.person(101, 0);
        x.sit(0, 2);
        Due.is("13 one", x.cracks(), 4);
        Due.is("14 the worst", x.worst(), 2);
        x.sit(1, 1);
        Due.is("13 three", x.cracks(), 1 | 2 | 4);
        Due.is("14 not the least number", x.worst(), 2);
        Due.is("15 both", x.fall(), 1);
        Due.is("13 not BROKEN ones", x.cracks(), 0);
        Due.is("14 not BROKEN ones", x.worst(), 3);
        x.weather(1, 9);
        x.change(3, 3, 1);
        Due.is("14 others BROKEN", x.worst(), 3);
        Due.is("15 empty boughs break", x.fall(), 0);
        Due.is("3 BROKEN", x.boughOf(3, 6), 2);
        x.change(0, 3, 1);
        Due.is("15 all", x.fall(), 1);
        Due.is("14 NONE", x.worst(), Due.NONE);
        Due.is("13 none", x.cracks(), 0);
    }

    private static void fall() {
        OakCourt x = Due.tower();
        for (int w : new int[] {50, 50, 101, 1}) x.person(w, 0);
        x.sit(0, 0);
        x.sit(1, 1);
        x.sit(2, 2);
        String was = Due.state(x);
        Due.is("16 would", x.would(), 1);
        Due.is("16 would again", x.would(), 1);
        Due.same("would", was, Due.state(x));
        Due.is("15 fall", x.fall(), 1);
        Due.is("10 fell", x.personOf(2, 2), Due.NO);
        Due.is("10 sits still", x.personOf(1, 2), 1);
        Due.is("15 again", x.fall(), 0);
        Due.is("16 again", x.would(), 0);
        x.weather(1, 9);
        x.change(1, 3, 1);
        Due.is("16 would", x.would(), 1);
        Due.is("15 fall", x.fall(), 1);
        Due.is("3 0 holds", x.boughOf(0, 6), 0);
    }

    /** The greatest excess goes first; who falls with it may spare what is below. */
    private static void fallOrder() {
        OakCourt x = Due.tower();
        x.person(160, 0);
        x.person(60, 1);
        x.sit(0, 2);
        x.sit(1, 1);
        Due.is("13 1 and 2", x.cracks(), 6);
        Due.is("15 2 alone", x.fall(), 1);
        Due.is("3 1 is spared", x.boughOf(1, 6), 0);
        OakCourt y = Due.tower();
        y.change(1, 3, 120);
        y.person(150, 0);
        y.person(20, 1);
        y.sit(0, 2);
        y.sit(1, 1);
        Due.is("13 1 and 2", y.cracks(), 6);
        Due.is("14 as much: the least", y.worst(), 1);
        Due.is("15 the least with all above", y.fall(), 2);
        Due.is("3 2 with it", y.boughOf(2, 6), 2);
        OakCourt z = Due.tower();
        z.person(100, 0);
        z.person(200, 0);
        z.sit(0, 3);
        z.sit(1, 2);
        OakCourt nine = nine();
        for (int b = 0; b < 9; b++) nine.change(b, 2, 9);
        nine.weather(1, 9);
        for (int p = 0; p < 8; p++) nine.person(1, 0);
        for (int p = 0; p < 8; p++) nine.sit(p, p);
        Due.is("13 all nine", nine.cracks(), 511);
        Due.is("15 all nine, one by one", nine.fall(), 8);
        Due.is("3 the last", nine.boughOf(8, 6), 2);
        Due.is("15 parts of the oak", z.fall(), 2);
        Due.is("3 state", z.boughOf(0, 6) * 1000 + z.boughOf(1, 6) * 100 + z.boughOf(2, 6) * 10 + z.boughOf(3, 6), 22);
    }

    private static OakCourt nine() {
        OakCourt x = new OakCourt();
        for (int b = 0; b < 9; b++) x.bough(1, -1, 1, 10 + b);
        return x;
    }

    private static void standing() {
        OakCourt x = Due.tower();
        x.person(90, 0);
        x.person(40, 1);
        x.person(51, 0);
        x.person(200, 0);
        Due.is("17 nobody sits", x.standing(0), 0);
        Due.is("18 as much", x.verdict(), 2);
        x.sit(0, 2);
        x.sit(1, 0);
        Due.is("17 of 0", x.standing(0), 90);
        Due.is("17 of 1", x.standing(1), 40);
        Due.is("18 0", x.verdict(), 0);
        x.sit(2, 2);
        String was = Due.state(x);
        Due.is("17 after a FALL", x.standing(0), 0);
        Due.is("17 after a FALL", x.standing(1), 40);
        Due.is("18 1", x.verdict(), 1);
        Due.same("standing", was, Due.state(x));
        x.down(2);
        x.change(3, 3, 200);
        x.person(51, 1);
        x.sit(4, 3);
        Due.is("18 1 by one", x.verdict(), 1);
        x.person(2, 0);
        x.sit(5, 0);
        Due.is("18 0 by one", x.verdict(), 0);
        x.person(1, 1);
        x.sit(6, 0);
        Due.is("18 as much", x.verdict(), 2);
        Due.is("17 as much", x.standing(0), 92);
        x.person(8, 1);
        x.sit(7, 1);
        Due.is("17 the eighth", x.standing(1), 100);
        for (int v : Due.OUTSIDE_INTS) Due.is("17 BAD", x.standing(v), Due.BAD);
        Due.is("17 BAD", x.standing(-1), Due.BAD);
        Due.is("17 BAD", x.standing(2), Due.BAD);
    }

    private static void room() {
        OakCourt x = Due.tower();
        Due.is("19 of 2", x.room(2), 100);
        Due.is("19 of 0", x.room(0), 300);
        x.person(150, 0);
        x.person(101, 0);
        x.sit(0, 1);
        Due.is("19 of 1", x.room(1), 50);
        Due.is("19 by what is below", x.room(2), 50);
        Due.is("19 of 0", x.room(0), 150);
        Due.is("19 another", x.room(3), 50);
        x.sit(1, 1);
        Due.is("19 0 at least", x.room(2), 0);
        Due.is("19 of 0", x.room(0), 49);
        Due.is("19 BAD", x.room(4), Due.BAD);
        Due.is("19 BAD", x.room(-1), Due.BAD);
        for (int v : Due.OUTSIDE_INTS) Due.is("19 BAD", x.room(v), Due.BAD);
        x.fall();
        Due.is("19 STATE", x.room(1), Due.STATE);
        Due.is("19 STATE above", x.room(2), Due.STATE);
        Due.is("19 of 0", x.room(0), 300);
    }

    private static void best() {
        OakCourt x = Due.tower();
        x.person(200, 0);
        x.person(60, 1);
        Due.is("20 the most", x.best(0), 0);
        x.sit(0, 0);
        Due.is("20 if it sat nowhere", x.best(0), 0);
        Due.is("20 for another: of several the least", x.best(1), 0);
        x.sit(1, 0);
        Due.is("20 without oneself", x.best(1), 0);
        x.down(1);
        x.change(3, 3, 101);
        Due.is("20 3", x.best(1), 3);
        x.change(3, 3, 100);
        Due.is("20 as much", x.best(1), 0);
        OakCourt y = Due.tower();
        y.person(1, 0);
        y.weather(1, 9);
        for (int b = 0; b < 4; b++) y.change(b, 3, 9);
        Due.is("20 no ROOM anywhere", y.best(0), 0);
        y.change(0, 3, 8);
        y.fall();
        Due.is("20 not BROKEN", y.best(0), 3);
        y.change(3, 3, 8);
        Due.is("20 ROOM below 0 is 0", y.best(0), 3);
        y.fall();
        Due.is("20 NONE", y.best(0), Due.NONE);
        Due.is("20 BAD ahead of NONE", y.best(1), Due.BAD);
        Due.is("20 BAD", y.best(-1), Due.BAD);
        for (int v : Due.OUTSIDE_INTS) Due.is("20 BAD", y.best(v), Due.BAD);
    }

    private static void safe() {
        OakCourt x = Due.tower();
        x.person(100, 0);
        x.person(151, 0);
        x.person(101, 0);
        Due.is("21 up to 2", x.safe(0), 7);
        Due.is("21 up to 1", x.safe(1), 3);
        x.sit(0, 1);
        Due.is("21 not where it sits", x.safe(0), 1 | 4);
        Due.is("21 with who sits", x.safe(1), 1);
        Due.is("21 1 is too much", x.safe(2), 1);
        x.sit(2, 3);
        Due.is("21 a crack elsewhere", x.safe(0), 0);
        Due.is("21 but who mends it", x.safe(2), 1);
        x.fall();
        Due.is("21 not BROKEN", x.safe(0), 1 | 4);
        Due.is("21 BAD", x.safe(3), Due.BAD);
        Due.is("21 BAD", x.safe(-1), Due.BAD);
        for (int v : Due.OUTSIDE_INTS) Due.is("21 BAD", x.safe(v), Due.BAD);
        Due.is("10 nothing moves", x.personOf(0, 2), 1);
    }

    private static void prop() {
        OakCourt x = Due.tower();
        for (int i = 0; i < 4; i++) x.person(120, i % 2);
        Due.is("22 nobody sits", x.prop(), Due.NONE);
        x.sit(0, 2);
        Due.is("22 mends 2", x.prop(), 2);
        x.sit(1, 2);
        Due.is("22 too much for it", x.prop(), Due.NONE);
        x.sit(1, 1);
        String was = Due.state(x);
        Due.is("22 1 keeps who sits on it", x.prop(), 1);
        Due.same("prop", was, Due.state(x));
        x.change(1, 3, 240);
        Due.is("22 2", x.prop(), 2);
        x.down(1);
        x.person(90, 1);
        x.sit(4, 3);
        Due.is("22 2 saves more than 3", x.prop(), 2);
        x.down(4);
        x.change(3, 3, 100);
        x.sit(1, 3);
        Due.is("22 of several the least", x.prop(), 2);
        x.fall();
        Due.is("22 BROKEN is not mended", x.prop(), Due.NONE);
        OakCourt y = Due.tower();
        y.person(200, 1);
        y.person(1, 0);
        y.sit(0, 1);
        y.sit(1, 0);
        Due.is("22 all stand", y.prop(), Due.NONE);
        y.change(0, 3, 155);
        Due.is("22 0", y.prop(), 0);
        y.sit(1, 3);
        Due.is("22 0, though some stand", y.prop(), 0);
        y.sit(0, 2);
        Due.is("22 two would have to be mended", y.prop(), Due.NONE);
        OakCourt nine = nine();
        nine.person(60, 0);
        nine.sit(0, 8);
        Due.is("22 the ninth", nine.prop(), 8);
        kindsByRules();
    }

    private static void kindsByRules() {
        OakCourt x = Due.tower();
        x.person(120, 0);
        x.sit(0, 2);
        Due.rules(x, "propped cut;", 1);
        Due.is("22 THE RULES ask by KIND", x.prop(), Due.NONE);
        Due.rules(x, "propped less 29;", 1);
        Due.is("22 120 or more", x.prop(), 2);
        Due.rules(x, "propped less 31;", 1);
        Due.is("22 119", x.prop(), Due.NONE);
    }

    private static void windFor() {
        OakCourt x = Due.tower();
        Due.is("23 NONE", x.windFor(), Due.NONE);
        x.change(3, 2, 9);
        Due.is("23 50 over 9", x.windFor(), 6);
        x.weather(1, 9);
        Due.is("23 whatever it is", x.windFor(), 6);
        x.change(3, 3, 80);
        Due.is("23 9", x.windFor(), 9);
        x.change(3, 3, 81);
        Due.is("23 as much holds", x.windFor(), Due.NONE);
        Due.rules(x, "green if wind = 4 and number = 1 cut;", 1);
        Due.is("23 by THE RULES", x.windFor(), 4);
        x.person(200, 0);
        x.sit(0, 3);
        Due.is("23 0", x.windFor(), 0);
        Due.is("6 WIND stays", x.weather(1, 0), 9);
        Due.is("23 no boughs", new OakCourt().windFor(), Due.NONE);
    }

    private static void sapFor() {
        OakCourt x = Due.tower();
        Due.is("24 0", x.sapFor(), 0);
        x.person(140, 0);
        x.sit(0, 3);
        Due.is("24 9", x.sapFor(), 9);
        x.change(3, 3, 49);
        Due.is("24 NONE", x.sapFor(), Due.NONE);
        x.weather(0, 3);
        x.change(3, 3, 101);
        Due.is("24 4", x.sapFor(), 4);
        Due.rules(x, "green if sap < 6 cut;", 1);
        Due.is("24 by THE RULES", x.sapFor(), 6);
        Due.is("6 SAP stays", x.weather(0, 0), 3);
        x.fall();
        Due.is("24 BROKEN don't crack", x.sapFor(), 0);
        Due.is("24 no boughs", new OakCourt().sapFor(), 0);
    }
}

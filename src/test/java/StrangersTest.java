/** Promises 29 to 35: reports of a stranger, winds by draws. */
public final class StrangersTest {
    public static void main(String[] args) {
        report();
        span();
        crackedAnywhere();
        liar();
        draws();
        often();
        Due.end("StrangersTest");
    }

    private static void report() {
        OakCourt x = Due.tower();
        for (int r = 0; r < 6; r++) Due.is("29 report", x.report(r % 4, r % 2), r);
        Due.is("29 FULL", x.report(0, 0), Due.FULL);
        Due.is("29 BAD ahead of FULL", x.report(4, 0), Due.BAD);
        Due.is("29 BAD ahead of FULL", x.report(0, 2), Due.BAD);
        Due.is("48 many", x.many(3), 6);
        Due.is("30 forget", x.forget(), 6);
        Due.is("30 forget", x.forget(), 0);
        Due.is("29 from 0 again", x.report(3, 1), 0);
        String was = Due.state(x);
        int[][] bad = {{-1, 0}, {4, 0}, {0, -1}, {0, 2}};
        for (int[] c : bad) Due.is("29 BAD", x.report(c[0], c[1]), Due.BAD);
        for (int v : Due.OUTSIDE_INTS) {
            Due.is("29 BAD", x.report(v, 0), Due.BAD);
            Due.is("29 BAD", x.report(0, v), Due.BAD);
        }
        Due.same("report's refusals", was, Due.state(x));
    }

    private static void spans(String what, OakCourt x, int many, int least, int greatest) {
        Due.is("31 how many: " + what, x.span(0), many);
        Due.is("31 the least: " + what, x.span(1), least);
        Due.is("31 the greatest: " + what, x.span(2), greatest);
    }

    private static void span() {
        OakCourt x = Due.tower();
        spans("no REPORTS", x, 200, 1, 200);
        x.report(0, 0);
        spans("0 holds 300", x, 200, 1, 200);
        x.report(2, 1);
        spans("2 cracked", x, 100, 101, 200);
        x.report(1, 0);
        spans("1 didn't", x, 100, 101, 200);
        x.person(50, 0);
        x.sit(0, 1);
        spans("as it is now", x, 50, 101, 150);
        x.sit(0, 2);
        spans("2 bears 50", x, 100, 51, 150);
        x.sit(0, 0);
        spans("below all", x, 100, 101, 200);
        x.weather(0, 1);
        spans("more SAP", x, 90, 111, 200);
        x.report(3, 0);
        spans("3 didn't", x, 0, Due.NONE, Due.NONE);
        Due.is("31 BAD", x.span(3), Due.BAD);
        Due.is("31 BAD", x.span(-1), Due.BAD);
        for (int v : Due.OUTSIDE_INTS) Due.is("31 BAD", x.span(v), Due.BAD);
        OakCourt y = Due.tower();
        y.report(0, 1);
        spans("none is so heavy", y, 0, Due.NONE, Due.NONE);
        y.change(0, 3, 199);
        spans("200 alone", y, 1, 200, 200);
        y.forget();
        y.report(3, 0);
        y.change(3, 3, 1);
        spans("1 alone", y, 1, 1, 1);
    }

    /** A crack elsewhere, too, is one; BROKEN boughs are never as told. */
    private static void crackedAnywhere() {
        OakCourt x = Due.tower();
        x.person(51, 0);
        x.sit(0, 3);
        x.report(0, 1);
        spans("3 cracks whoever sits", x, 200, 1, 200);
        x.forget();
        x.report(0, 0);
        spans("3 cracks, and 0 is told not", x, 0, Due.NONE, Due.NONE);
        Due.is("32 it is wrong", x.liar(), 0);
        x.fall();
        spans("no more", x, 200, 1, 200);
        x.report(3, 0);
        spans("BROKEN", x, 0, Due.NONE, Due.NONE);
        Due.is("32 the BROKEN one", x.liar(), 1);
        x.report(3, 1);
        Due.is("32 two of them", x.liar(), Due.NONE);
    }

    private static void liar() {
        OakCourt x = Due.tower();
        Due.is("32 no REPORTS", x.liar(), Due.NONE);
        x.report(2, 1);
        Due.is("32 some FIT", x.liar(), Due.NONE);
        x.report(3, 0);
        Due.is("32 of several the least", x.liar(), 0);
        x.report(1, 0);
        Due.is("32 of several the least", x.liar(), 0);
        x.report(2, 1);
        Due.is("32 but for 1 some would", x.liar(), 1);
        x.report(3, 0);
        Due.is("32 none", x.liar(), Due.NONE);
        String was = Due.state(x);
        x.liar();
        x.span(0);
        Due.same("liar", was, Due.state(x));
        OakCourt y = Due.tower();
        y.report(0, 0);
        y.report(3, 1);
        y.report(1, 0);
        y.report(0, 1);
        Due.is("32 the last", y.liar(), 3);
        OakCourt one = Due.tower();
        one.change(3, 3, 99);
        one.report(2, 0);
        one.report(3, 1);
        Due.is("31 100 alone", one.span(1) * 1000 + one.span(2), 100100);
        Due.is("32 one FITS", one.liar(), Due.NONE);
        one.report(1, 1);
        Due.is("32 but for 2 one would", one.liar(), 2);
    }

    private static void draws() {
        OakCourt x = Due.tower();
        Due.is("33 1 at first", x.seed(5), 1);
        Due.is("33 then 5", x.seed(1), 5);
        int z = 1;
        for (int i = 0; i < 50; i++) {
            z = z * 1103515245 + 12345;
            int wind = (int) ((z & 0xffffffffL) / 65536 % 10);
            Due.is("34 draw", x.draw(), wind);
            Due.is("34 WIND then", x.boughOf(0, 5), wind);
        }
        Due.is("34 z then", x.seed(Integer.MIN_VALUE), z);
        Due.is("34 by hand", x.seed(0), Integer.MIN_VALUE);
        Due.is("34 12345 is 0", x.draw(), 0);
        Due.is("33 z", x.seed(-1), 12345);
        Due.is("34 of -1103502900", x.draw(), 7);
        Due.is("33 z", x.seed(-1), -1103502900);
    }

    private static void often() {
        OakCourt x = Due.tower();
        x.change(3, 2, 9);
        x.seed(77);
        x.weather(1, 4);
        int z = 77;
        int times = 0;
        for (int n = 1; n <= 60; n++) {
            z = z * 1103515245 + 12345;
            if ((z >>> 16) % 10 >= 6) times++;
            Due.is("35 often(" + n + ")", x.often(n), times);
        }
        Due.is("35 WIND stays", x.weather(1, 0), 4);
        Due.is("35 z stays", x.seed(77), 77);
        Due.is("35 whatever WIND it is", x.often(60), times);
        Due.rules(x, "green if number = 3 and wind = 5 cut;", 1);
        int more = 0;
        z = 77;
        for (int n = 1; n <= 60; n++) {
            z = z * 1103515245 + 12345;
            if ((z >>> 16) % 10 >= 5) more++;
        }
        Due.is("35 by THE RULES", x.often(60), more);
        for (int n : new int[] {0, 61, -1}) Due.is("35 BAD", x.often(n), Due.BAD);
        for (int n : Due.OUTSIDE_INTS) Due.is("35 BAD", x.often(n), Due.BAD);
        Due.is("35 no boughs", new OakCourt().often(60), 0);
    }
}

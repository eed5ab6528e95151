/** What the tests by hand have in common: answers that are due, and oaks to ask about. */
final class Due {
    static final int BAD = -1, FULL = -2, NONE = -3, STATE = -4, NO = -9;
    static final int[] OUTSIDE_INTS = {Integer.MIN_VALUE, -1000, -10, -2, 1000, 65536, Integer.MAX_VALUE};
    private static int wrong = 0;
    private static int asked = 0;

    private Due() {
    }

    static void is(String call, long got, long want) {
        asked++;
        if (got == want) return;
        wrong++;
        System.out.println(call + " answered " + got + ", due is " + want);
    }

    static void end(String name) {
        System.out.println(name + ": " + asked + " asked, " + wrong + " not as due");
        if (wrong != 0) System.exit(1);
    }

    /** Puts a text on THE TAPE: what the last feed() answers. */
    static int feed(OakCourt x, String text) {
        int has = 0;
        for (int i = 0; i < text.length(); i += 8) {
            int n = Math.min(8, text.length() - i);
            long eight = 0;
            for (int k = 0; k < n; k++) eight |= (text.charAt(i + k) & 255L) << 8 * k;
            has = x.feed(eight, n);
        }
        return has;
    }

    /** What rules() answers to a text that is all the tape. */
    static int told(OakCourt x, String text) {
        is("feed of " + text, feed(x, text), text.length());
        return x.rules();
    }

    static void rules(OakCourt x, String text, int many) {
        is("rules() of " + text, told(x, text), many);
    }

    static void fault(OakCourt x, String text, int place) {
        int were = x.many(1);
        is("rules() of " + text, told(x, text), -100 - place);
        is("many(1) behind " + text, x.many(1), were);
        is("many(5) behind " + text, x.many(5), 0);
    }

    /** One bough of each kind, 1 to 5, on the trunk, with numbers 0 to 4. */
    static OakCourt fiveOnTrunk(int length, int holds) {
        OakCourt x = new OakCourt();
        for (int kind = 1; kind <= 5; kind++) x.bough(kind, -1, length, holds);
        return x;
    }

    /** Green boughs of length 1: 0 on the trunk (300), 1 on 0 (200), 2 on 1 (100), 3 on the trunk (50). */
    static OakCourt tower() {
        OakCourt x = new OakCourt();
        x.bough(1, -1, 1, 300);
        x.bough(1, 0, 1, 200);
        x.bough(1, 1, 1, 100);
        x.bough(1, -1, 1, 50);
        return x;
    }

    /** Every number that a later call could show, but for THE TAPE's bytes. */
    static String state(OakCourt x) {
        StringBuilder s = new StringBuilder();
        for (int b = 0; b < x.many(0); b++) {
            for (int what = 0; what < 7; what++) s.append(x.boughOf(b, what)).append(' ');
        }
        for (int p = 0; p < x.many(2); p++) {
            for (int what = 0; what < 3; what++) s.append(x.personOf(p, what)).append(' ');
        }
        for (int k = 0; k < 7; k++) s.append(x.many(k)).append(' ');
        s.append(x.cracks()).append(' ').append(x.windFor()).append(' ').append(x.sapFor()).append(' ');
        int sap = x.weather(0, 0);
        int wind = x.weather(1, 0);
        int z = x.seed(0);
        x.weather(0, sap);
        x.weather(1, wind);
        x.seed(z);
        return s.append(sap).append(' ').append(wind).append(' ').append(z).toString();
    }

    static void same(String call, String was, String is) {
        is("the state behind " + call, was.equals(is) ? 0 : 1, 0);
    }
}

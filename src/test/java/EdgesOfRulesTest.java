import java.io.IOException;

/** The edges that the document names, sentence by sentence: THE TAPE and THE RULES. */
public final class EdgesOfRulesTest {
    public static void main(String[] args) throws IOException {
        Edges.begin(args);
        tape();
        feed();
        usedUp();
        eightRules();
        grammar();
        amounts();
        numbers();
        names();
        blanks();
        open();
        ends();
        places();
        told();
        inPlaceOfAll();
        firstThatHolds();
        less();
        facts();
        signs();
        Edges.end("EdgesOfRulesTest");
    }

    /** The text tells so many rules. */
    private static void right(String text, int many) {
        Edges.is("rules() of " + text, Due.told(new OakCourt(), text), many);
    }

    private static void fault(String text, int place) {
        OakCourt x = new OakCourt();
        Due.rules(x, "old cut; old cut;", 2);
        Edges.is("rules() of " + text, Due.told(x, text), -100 - place);
        Edges.is("THE RULES stay", x.many(1), 2);
    }

    /** The condition holds of a green bough, number 0, 3 long, that holds 50, in SAP 4 and WIND 5. */
    private static void holds(String condition, boolean so) {
        OakCourt x = new OakCourt();
        x.bough(1, -1, 3, 50);
        x.weather(0, 4);
        x.weather(1, 5);
        Edges.is("rules() of " + condition, Due.told(x, "green if " + condition + " cut;"), 1);
        Edges.is(condition, x.boughOf(0, 4), so ? 40 : 90);
    }

    private static void tape() {
        Edges.says("THE TAPE takes bytes, 200 at most");
        OakCourt x = new OakCourt();
        for (int i = 1; i <= 25; i++) Edges.is("8 more", x.feed(0x2020202020202020L, 8), 8 * i);
        for (int n = 1; n <= 8; n++) Edges.is(n + " beyond 200", x.feed(0x2020202020202020L, n), Due.FULL);
        Edges.is("200 blanks tell none", x.rules(), 0);
        for (int i = 1; i <= 24; i++) x.feed(0x2020202020202020L, 8);
        Edges.is("193", x.feed(' ', 1), 193);
        Edges.is("201", x.feed(0x2020202020202020L, 8), Due.FULL);
        Edges.is("200", x.feed(0x20202020202020L, 7), 200);
        right("dry cut;" + " ".repeat(192), 1);
        right(" ".repeat(192) + "dry cut;", 1);
        fault(" ".repeat(199) + ";", 199);
        fault(" ".repeat(193) + "dry cut", 200);
        fault(" ".repeat(199) + "d", 199);
        fault(" ".repeat(197) + "dry", 200);
        fault("a".repeat(200), 0);
        fault("dry more " + "0".repeat(191), 9);
    }

    private static void feed() {
        Edges.says("n bytes (1 to 8) come to THE TAPE, the lowest of eight first: how many it has. BAD; FULL: more than 200.");
        OakCourt x = new OakCourt();
        Edges.is("one byte", x.feed(0x7a7a7a7a7a7a7a64L, 1), 1);
        Edges.is("two more", x.feed(0x7a7a7a7a7a7a7972L, 2), 3);
        Edges.is("five more", x.feed(0x7a7a7a3b74756320L, 5), 8);
        Edges.is("they tell", x.rules(), 1);
        Edges.is("all eight", x.feed(0x3b74756320797264L, 8), 8);
        Edges.is("they tell", x.rules(), 1);
        Edges.is("the highest byte is a byte, too", x.feed(0xbb74756320797264L, 8), 8);
        Edges.is("and can't stand", x.rules(), -107);
        for (int n : new int[] {-1, 0, 9, Edges.MIN, Edges.MAX}) Edges.leaves(n + " bytes", y -> y.feed(0, n), Due.BAD);
        for (int n : new int[] {1, 8}) Edges.leaves(n + " bytes to 200", Edges::full, y -> y.feed(-1L, n), Due.FULL);
        OakCourt z = new OakCourt();
        Due.feed(z, " ".repeat(190) + "dry c");
        Edges.is("six beyond", z.feed(-1L, 6), Due.FULL);
        Edges.is("five", z.feed(0x203b7475L, 4), 199);
        Edges.is("what was refused isn't on it", z.rules(), 1);
    }

    private static void usedUp() {
        Edges.says("rules() uses it up.");
        OakCourt x = new OakCourt();
        Edges.is("a right text", Due.told(x, "dry cut; old cut;"), 2);
        Edges.is("nothing is left", x.many(5), 0);
        Edges.is("a faulty one", Due.told(x, "dry cut; old"), -112);
        Edges.is("nothing is left", x.many(5), 0);
        Edges.is("and THE RULES stay", x.many(1), 2);
        Edges.is("the next begins at 0", Due.told(x, "dry dry"), -104);
        Edges.is("an empty TAPE tells none", x.rules(), 0);
        Edges.is("in place of all", x.many(1), 0);
    }

    private static void eightRules() {
        Edges.says("8 RULES at most.");
        for (int many = 0; many <= 8; many++) right("dry cut;".repeat(many), many);
        Edges.says("the first NAME of the ninth RULE, too");
        fault("dry cut;".repeat(9), 64);
        fault("dry cut;".repeat(8) + "   bough if 1=1 cut;", 67);
        fault("dry cut;".repeat(8) + " x", 65);
        fault("dry cut;".repeat(8) + " dry", 65);
        fault("dry cut;".repeat(8) + "7", 64);
        right("dry cut;".repeat(8) + "        ", 8);
    }

    private static void grammar() {
        Edges.says("TEXT: { KIND DO ; | KIND if COND DO ; }, 8 RULES at most. KIND: bough | green | dry | old | propped | kings."
            + " DO: more N | less N (0 to 999) | cut.");
        for (String kind : Model.KIND_NAMES) {
            right(kind + " cut;", 1);
            right(kind + " if 1=1 less 0;", 1);
            fault(kind + kind + " cut;", 0);
            fault(kind.substring(1) + " cut;", 0);
            fault(kind.substring(0, kind.length() - 1) + " cut;", 0);
            fault(kind + "s cut;", 0);
        }
        fault(";", 0);
        fault("dry;", 3);
        fault("dry cut", 7);
        fault("dry cut;;", 8);
        fault("dry cut 1;", 8);
        fault("dry more;", 8);
        fault("dry more sap;", 9);
        fault("dry if cut;", 7);
        fault("dry cut if 1=1;", 8);
        fault("dry if 1=1 if 1=1 cut;", 11);
        fault("if 1=1 dry cut;", 0);
        Edges.says("ALL { or ALL } ALL: ONE { and ONE } ONE: { not } ( VALUE SIGN VALUE | \"(\" COND \")\" )");
        right("dry if not not not 1=1 cut;", 1);
        right("dry if 1=1 and 1=1 or 1=1 and not(1=1 or 1=1) cut;", 1);
        fault("dry if 1 cut;", 9);
        fault("dry if not cut;", 11);
        fault("dry if 1=1 and cut;", 15);
        fault("dry if 1=1 or cut;", 14);
        fault("dry if and 1=1 cut;", 7);
        fault("dry if 1=1 not 1=1 cut;", 11);
        fault("dry if not 1 cut;", 13);
        fault("dry if 1=not 1 cut;", 9);
        fault("dry if () cut;", 8);
        fault("dry if (1)=1 cut;", 9);
        fault("dry if (1=1 cut;", 12);
        fault("dry if 1=1) cut;", 10);
        fault("dry if (1=1)=(1=1) cut;", 12);
        fault("dry if 1=1=1 cut;", 10);
        StringBuilder long200 = new StringBuilder("dry if 1=2");
        for (int i = 0; i < 26; i++) long200.append(" or 1=2");
        right(long200 + "    cut;", 1);
    }

    private static void amounts() {
        Edges.says("N above 999 behind more or less");
        for (String deed : new String[] {"more", "less"}) {
            for (String n : new String[] {"0", "00", "000", "0000", "9", "999", "0999"}) right("dry " + deed + " " + n + ";", 1);
            for (String n : new String[] {"1000", "1001", "9999", "10000", "00999"}) fault("dry " + deed + " " + n + ";", 9);
        }
        OakCourt x = Edges.nine(1, 999);
        Edges.is("more 999", Due.told(x, "green more 999;"), 1);
        Edges.is("of 999", x.boughOf(0, 4), 1998);
        Edges.is("less 999", Due.told(x, "green less 999;"), 1);
        Edges.is("of 999", x.boughOf(0, 4), 0);
        Edges.is("less 998", Due.told(x, "green less 998;"), 1);
        Edges.is("of 999", x.boughOf(0, 4), 1);
        Edges.is("more 0", Due.told(x, "green more 0;"), 1);
        Edges.is("of 999", x.boughOf(0, 4), 999);
    }

    private static void numbers() {
        Edges.says("N are NUMBERS 0 to 9999.");
        holds("9999 > 9998", true);
        holds("9999 = 9999", true);
        holds("0 = 0000", true);
        holds("0 < 1", true);
        holds("1000 > 999", true);
        Edges.says("a NUMBER of more digits");
        fault("dry if 10000 > 1 cut;", 7);
        fault("dry if 1 < 10000 cut;", 11);
        fault("dry if 00000 = 0 cut;", 7);
        fault("dry if sap = 00001 cut;", 13);
        fault("dry if 1 = 1 10000 cut;", 13);
        fault("10000", 0);
        Edges.says("NAMES are rows of letters a to z, NUMBERS rows of digits (1 to 4), both as long as they go");
        right("dry if 1234=1234and 5=5cut;", 1);
        right("dry more5;old less5;", 2);
        right("dry if1=1and2=2cut;", 1);
        fault("dry if 12 34=1 cut;", 10);
        fault("dry more 1 2;", 11);
        fault("drycut;", 0);
        fault("dry cutold cut;", 4);
        fault("dry if 1=1andsap=1 cut;", 10);
        fault("dry if notsap=1 cut;", 7);
    }

    private static void names() {
        Edges.says("the first byte of the first NAME, NUMBER or other byte that can't stand there");
        int[] besides = {0, 9, 10, 31, 33, '/', ':', '@', 'A', 'Z', '[', '`', '{', 127, 128, 160, 255};
        for (int sign : besides) {
            fault((char) sign + "dry cut;", 0);
            fault("dry" + (char) sign + "cut;", 3);
            fault("dry cut" + (char) sign + ";", 7);
            fault("dry cut;" + (char) sign, 8);
            fault("dry if 12" + (char) sign + "=1 cut;", 9);
        }
        for (char sign = 'a'; sign <= 'z'; sign++) fault("dry cut" + sign + ";", 4);
        for (char sign = '0'; sign <= '9'; sign++) fault("dry cut" + sign + ";", 7);
        fault("dRy cut;", 0);
        fault("Dry cut;", 0);
        fault("drY cut;", 0);
        fault("  boug h cut;", 2);
        fault("dry cut; x cut;", 9);
        fault("dry sap;", 4);
        fault("dry if old = 1 cut;", 7);
        fault("dry if x = 1 cut;", 7);
        fault("dry if 1 == 1 cut;", 10);
        fault("dry if 1 <> 1 cut;", 10);
        fault("dry if 1 more 1 cut;", 9);
    }

    private static void blanks() {
        Edges.says("blanks (32) part them, and stand elsewhere as one likes.");
        right("dry cut;", 1);
        right("  dry   cut  ;  ", 1);
        right("dry if(1=1)cut;", 1);
        right("  dry  if  (  1  =  1  )  cut  ;  ", 1);
        right("dry if not(1<2)and sap>1or(2=2)more 4;", 1);
        right(" ", 0);
        fault("dr y cut;", 0);
        fault("dry c ut;", 4);
        fault("dry\tcut;", 3);
        fault("dry\ncut;", 3);
        fault("dry\u00a0cut;", 3);
    }

    private static void open() {
        Edges.says("At most 3 \"(\" are open within one another.");
        right("dry if (1=1) cut;", 1);
        right("dry if ((1=1)) cut;", 1);
        right("dry if (((1=1))) cut;", 1);
        right("dry if (((1=1)))or(((1=1))) cut;", 1);
        right("dry if ((1=1)and(1=1)and((1=1)or(1=1))) cut;", 1);
        right("dry if(((1=1)))cut;old if(((1=1)))cut;", 2);
        right("dry if not(not(not(not 1=1))) cut;", 1);
        Edges.says("the fourth \"(\"");
        fault("dry if ((((1=1)))) cut;", 10);
        fault("dry if (((((1=1))))) cut;", 10);
        fault("dry if (((not (1=1)))) cut;", 14);
        fault("dry if (1=1 and(1=1 or(1=1 and(1=1)))) cut;", 30);
        fault("dry if (((1=1)))and((((1=1)))) cut;", 22);
        fault("dry if(((1=1)))cut;old if((((1=1))))cut;", 28);
        fault("dry if ((((", 10);
    }

    private static void ends() {
        Edges.says("or the end (how many bytes there are), if more must come.");
        String text = "dry if 1=1 cut;";
        int[] faults = {-1, 0, 0, 3, 4, 4, 6, 7, 8, 9, 10, 11, 11, 11, 14};
        for (int n = 1; n < text.length(); n++) fault(text.substring(0, n), faults[n]);
        right(text, 1);
        fault("dry  ", 5);
        fault("old more", 8);
        fault("old more ", 9);
        fault("old more 1", 10);
        fault("old more 1  ", 12);
        fault("dry cut; old less 7   ", 22);
        fault("dry if (", 8);
        fault("dry if (1=1", 11);
        fault("dry if (1=1)", 12);
        fault("dry if ((1=1)", 13);
        fault("dry if 1=1 and", 14);
        fault("dry if 1=1 or ", 14);
        fault("dry if not", 10);
        fault("dry if sap <", 12);
    }

    private static void places() {
        Edges.says("FAULT: the place (from 0)");
        fault("x", 0);
        fault(" x", 1);
        fault("dry cut;x", 8);
        fault("dry cut; dry x; y cut;", 13);
        fault(" ".repeat(150) + "dry cut cut;", 158);
    }

    private static void told() {
        Edges.says("THE TAPE tells THE RULES (in place of all): how many; -100 less its FAULT.");
        OakCourt x = Edges.rich();
        Edges.is("a FAULT at 0", Due.told(new OakCourt(), ";"), -100);
        Edges.is("a FAULT at 4", x.rules(), -104);
        Edges.is("none at all", x.rules(), 0);
        Edges.is("many(1)", x.many(1), 0);
        Edges.is("no more by 5", x.boughOf(0, 4), 440);
    }

    private static void inPlaceOfAll() {
        OakCourt x = Edges.nine(1, 100);
        Edges.is("eight", Due.told(x, "green cut;".repeat(8)), 8);
        Edges.is("one", Due.told(x, "green more 1;"), 1);
        Edges.is("it alone", x.boughOf(0, 4) * 10 + x.many(1), 1011);
        Edges.is("a fault behind seven", Due.told(x, "green cut;".repeat(7) + "green"), -175);
        Edges.is("it alone still", x.boughOf(0, 4) * 10 + x.many(1), 1011);
        Edges.is("of no condition behind a faulty one", Due.told(x, "green if 1=2 and (1=2 or"), -124);
        Edges.is("cut", Due.told(x, "green cut;"), 1);
        Edges.is("always", x.boughOf(0, 4), 0);
    }

    private static void firstThatHolds() {
        Edges.says("the first of THE RULES whose KIND is its or above it, and whose condition holds.");
        OakCourt x = Due.fiveOnTrunk(1, 100);
        Edges.is("one for each KIND", Due.told(x, "kings more 6;propped more 5;old more 8;dry more 3;green more 2;bough more 1;"), 6);
        int[] due = {102, 51, 53, 155, 312};
        for (int b = 0; b < 5; b++) Edges.is("the first, of " + b, x.boughOf(b, 4), due[b]);
        Edges.is("bough first", Due.told(x, "bough more 1; kings more 6; propped more 5; old more 8; dry more 3; green more 2;"), 6);
        int[] ones = {101, 50, 49, 151, 302};
        for (int b = 0; b < 5; b++) Edges.is("bough is above all, of " + b, x.boughOf(b, 4), ones[b]);
        Edges.is("under, not above", Due.told(x, "old cut; kings cut;"), 2);
        int[] under = {100, 50, 0, 150, 100};
        for (int b = 0; b < 5; b++) Edges.is("those alone, of " + b, x.boughOf(b, 4), under[b]);
        Edges.is("none holds", Due.told(x, "bough if 1=2 cut; bough if 2<1 cut;"), 2);
        Edges.is("h: HOLDS", x.boughOf(0, 4), 100);
        Edges.is("the eighth alone holds", Due.told(x, "bough if 1=2 cut;".repeat(7) + "bough more 9;"), 8);
        Edges.is("it is the first", x.boughOf(0, 4), 109);
    }

    private static void less() {
        Edges.says("by less N: N less (0 at least); by cut: 0.");
        OakCourt x = Edges.nine(1, 100);
        int[][] due = {{99, 1}, {100, 0}, {101, 0}, {999, 0}, {0, 100}};
        for (int[] d : due) {
            Edges.is("less " + d[0], Due.told(x, "green less " + d[0] + ";"), 1);
            Edges.is("of 100", x.boughOf(0, 4), d[1]);
        }
        Edges.is("cut", Due.told(x, "green cut;"), 1);
        Edges.is("of 100", x.boughOf(0, 4), 0);
        x.weather(0, 9);
        Edges.is("and 10 times SAP", x.boughOf(0, 4), 90);
        Edges.is("less 999", Due.told(x, "green less 999;"), 1);
        Edges.is("0 at least ahead of SAP", x.boughOf(0, 4), 90);
    }

    private static void facts() {
        Edges.says("FACTS: SAP, WIND; LONG, HOLDS of the BOUGH as told, and its number.");
        holds("sap = 4", true);
        holds("wind = 5", true);
        holds("long = 3", true);
        holds("holds = 50", true);
        holds("number = 0", true);
        holds("sap < 4 or sap > 4", false);
        OakCourt x = Edges.nine(1, 999);
        Edges.is("the ninth", Due.told(x, "bough if number = 8 cut;"), 1);
        for (int b = 0; b < 9; b++) Edges.is("of " + b, x.boughOf(b, 4), b == 8 ? 0 : 999);
        Edges.is("the greatest", Due.told(x, "bough if holds = 999 and sap = 9 and wind = 9 and long = 9 cut;"), 1);
        x.weather(0, 9);
        x.weather(1, 9);
        x.change(4, 2, 9);
        for (int b = 0; b < 9; b++) Edges.is("of " + b, x.boughOf(b, 4), b == 4 ? 90 : 1089);
        Edges.is("the least", Due.told(x, "bough if holds = 1 and sap = 0 and wind = 0 and long = 1 cut;"), 1);
        x.weather(0, 0);
        x.weather(1, 0);
        x.change(3, 3, 1);
        for (int b = 0; b < 9; b++) Edges.is("of " + b, x.boughOf(b, 4), b == 3 ? 0 : 999);
        Edges.is("HOLDS as told, not NOW", Due.told(x, "bough if holds > 999 or holds < 1 cut;"), 1);
        x.weather(0, 9);
        Edges.is("of 0", x.boughOf(0, 4), 1089);
    }

    private static void signs() {
        Edges.says("VALUE: N | sap | wind | long | holds | number SIGN: < | = | >");
        int[] values = {49, 50, 51};
        for (int v : values) {
            holds("holds < " + v, 50 < v);
            holds("holds = " + v, v == 50);
            holds("holds > " + v, 50 > v);
            holds(v + " < holds", v < 50);
            holds("not " + v + " > holds", v <= 50);
        }
        holds("0 < 0", false);
        holds("0 > 0", false);
        holds("9999 < 0", false);
    }
}

/** Promises 7 and 8: THE TAPE, THE RULES' text and its FAULT, and what the rules change. */
public final class RulesTest {
    public static void main(String[] args) {
        feed();
        deeds();
        kinds();
        firstThatHolds();
        facts();
        joints();
        blanks();
        faults();
        faultsOfConditions();
        limits();
        inPlaceOfAll();
        Due.end("RulesTest");
    }

    private static void feed() {
        OakCourt x = new OakCourt();
        Due.is("7 the lowest first", x.feed(0x3b74756320797264L, 8), 8);
        Due.is("8 dry cut;", x.rules(), 1);
        Due.is("7 used up", x.many(5), 0);
        Due.is("7 n counts", x.feed(0x3b74756320797264L, 3), 3);
        Due.is("7 goes on", x.feed(0x1122334455667788L, 1), 4);
        String was = Due.state(x);
        for (int n : new int[] {0, 9, -1}) Due.is("7 BAD", x.feed(0, n), Due.BAD);
        for (int n : Due.OUTSIDE_INTS) Due.is("7 BAD", x.feed(0, n), Due.BAD);
        Due.same("feed's refusals", was, Due.state(x));
        Due.is("8 the fault", x.rules(), -103);
        for (int i = 1; i <= 24; i++) Due.is("7 " + 8 * i, x.feed(-1L, 8), 8 * i);
        Due.is("7 199", x.feed(-1L, 7), 199);
        Due.is("7 FULL", x.feed(-1L, 2), Due.FULL);
        Due.is("7 BAD ahead of FULL", x.feed(-1L, 9), Due.BAD);
        Due.is("7 nothing came", x.many(5), 199);
        Due.is("7 200", x.feed(-1L, 1), 200);
        Due.is("7 FULL", x.feed(-1L, 1), Due.FULL);
        Due.is("8 bytes of 255", x.rules(), -100);
        Due.is("8 used up by a fault", x.many(5), 0);
        Due.is("8 nothing told", x.rules(), 0);
    }

    private static void holds(String what, OakCourt x, int... due) {
        for (int b = 0; b < due.length; b++) Due.is("HOLDS NOW of " + b + ", " + what, x.boughOf(b, 4), due[b]);
    }

    private static void deeds() {
        OakCourt x = Due.fiveOnTrunk(2, 100);
        holds("no rules", x, 100, 50, 48, 150, 300);
        Due.rules(x, "bough more 11;", 1);
        holds("more", x, 111, 55, 53, 161, 322);
        Due.rules(x, "bough less 11;", 1);
        holds("less", x, 89, 44, 42, 139, 278);
        Due.rules(x, "bough less 101;", 1);
        holds("0 at least", x, 0, 0, 0, 50, 100);
        Due.rules(x, "bough more 0;", 1);
        holds("more 0", x, 100, 50, 48, 150, 300);
        Due.rules(x, "bough cut;", 1);
        x.weather(0, 2);
        holds("cut", x, 20, 0, 0, 50, 100);
    }

    private static void kinds() {
        OakCourt x = Due.fiveOnTrunk(2, 100);
        Due.rules(x, "green cut;", 1);
        holds("green", x, 0, 50, 48, 150, 300);
        Due.rules(x, "dry cut;", 1);
        holds("dry", x, 100, 0, 0, 150, 300);
        Due.rules(x, "old cut;", 1);
        holds("old", x, 100, 50, 0, 150, 300);
        Due.rules(x, "propped cut;", 1);
        holds("propped", x, 100, 50, 48, 50, 100);
        Due.rules(x, "kings cut;", 1);
        holds("kings", x, 100, 50, 48, 150, 100);
        x.graft(0, 5);
        Due.is("by the KIND of now", x.boughOf(0, 4), 100);
    }

    private static void firstThatHolds() {
        OakCourt x = Due.fiveOnTrunk(2, 100);
        Due.rules(x, "old more 20; dry more 40; bough more 60;", 3);
        holds("the first of its kind or above", x, 160, 70, 58, 210, 420);
        Due.rules(x, "bough more 60; old more 20;", 2);
        holds("only the first", x, 160, 80, 78, 210, 420);
        Due.rules(x, "old if sap > 0 more 20; dry if wind = 0 more 40; old cut;", 3);
        holds("the first that holds", x, 100, 70, 68, 150, 300);
        x.weather(0, 1);
        Due.is("by SAP then", x.boughOf(2, 4), 58);
        x.weather(0, 0);
        x.weather(1, 1);
        Due.is("by WIND then", x.boughOf(2, 4), 0);
    }

    private static void facts() {
        OakCourt x = Due.fiveOnTrunk(2, 100);
        x.change(1, 2, 7);
        x.change(1, 3, 300);
        x.weather(0, 3);
        x.weather(1, 5);
        Due.rules(x, "green if sap = 3 more 1;", 1);
        Due.is("sap", x.boughOf(0, 4), 131);
        Due.rules(x, "green if wind = 5 more 2;", 1);
        Due.is("wind", x.boughOf(0, 4), 132);
        Due.rules(x, "bough if long = 7 cut;", 1);
        holds("long", x, 130, 0, 48, 150, 300);
        Due.rules(x, "bough if holds = 300 cut;", 1);
        holds("holds", x, 130, 0, 48, 150, 300);
        Due.rules(x, "bough if number = 1 cut;", 1);
        holds("number", x, 130, 0, 48, 150, 300);
        Due.rules(x, "bough if holds < number cut; bough if 9999 > holds more 100;", 2);
        holds("HOLDS as told", x, 230, 200, 98, 250, 500);
        String[] so = {"1 < 2", "2 > 1", "2 = 2", "0000 = 0", "10 > 9", "sap < wind", "long < holds", "007 = 7"};
        String[] not = {"2 < 1", "1 < 1", "1 > 1", "1 > 2", "2 = 1", "wind < sap", "holds < long", "9 > 10"};
        for (String s : so) isSo(s, true);
        for (String s : not) isSo(s, false);
    }

    private static void isSo(String cond, boolean so) {
        OakCourt x = new OakCourt();
        x.bough(1, -1, 2, 100);
        x.weather(1, 1);
        Due.rules(x, "green if " + cond + " cut;", 1);
        Due.is(cond, x.boughOf(0, 4), so ? 0 : 100);
    }

    private static void joints() {
        String t = "1=1", f = "1=2";
        String[] two = {f, t};
        for (int i = 0; i < 8; i++) {
            String a = two[i & 1], b = two[i >> 1 & 1], c = two[i >> 2];
            boolean p = a == t, q = b == t, r = c == t;
            isSo(a + " and " + b + " or " + c, p && q || r);
            isSo(a + " or " + b + " and " + c, p || q && r);
            isSo("(" + a + " or " + b + ") and " + c, (p || q) && r);
            isSo(a + " and (" + b + " or " + c + ")", p && (q || r));
            isSo("not " + a + " and " + b, !p && q);
            isSo("not " + a + " or " + b, !p || q);
            isSo("not (" + a + " or " + b + ") and " + c, !(p || q) && r);
            isSo("not not " + a + " and not not not " + b, p && !q);
            isSo(a + " and " + b + " and " + c, p && q && r);
            isSo(a + " or " + b + " or " + c, p || q || r);
            isSo("not (not (not (" + a + ") or " + b + ") and " + c + ")", !(!(!p || q) && r));
            isSo("((" + a + ") and (" + b + ")) or ((" + c + "))", p && q || r);
        }
    }

    private static void blanks() {
        OakCourt x = Due.fiveOnTrunk(2, 100);
        Due.rules(x, "   dry   cut  ;   ", 1);
        Due.rules(x, "dry cut ; dry cut;dry cut;", 3);
        Due.rules(x, "dry if(1=1)and(2>1)cut;", 1);
        Due.rules(x, "dry if(1=1)or not(2>1)less 5;", 1);
        Due.rules(x, "     ", 0);
        Due.rules(x, "dry more5;dry if 1<2cut;dry if1<2cut;", 3);
        Due.rules(x, "dry if 1 < 2and 1<2or 1=1cut;", 1);
        Due.fault(x, "drycut;", 0);
        Due.fault(x, "dry ifnot 1=1 cut;", 4);
        Due.fault(x, "dry\tcut;", 3);
        Due.fault(x, "dry\ncut;", 3);
    }

    private static void faults() {
        OakCourt x = Due.fiveOnTrunk(2, 100);
        Due.rules(x, "dry cut;", 1);
        Due.fault(x, "cut;", 0);
        Due.fault(x, "  trunk cut;", 2);
        Due.fault(x, "Dry cut;", 0);
        Due.fault(x, "dRy cut;", 0);
        Due.fault(x, "7 cut;", 0);
        Due.fault(x, ";", 0);
        Due.fault(x, "dry cut;;", 8);
        Due.fault(x, "dry;", 3);
        Due.fault(x, "dry dry;", 4);
        Due.fault(x, "dry 5;", 4);
        Due.fault(x, "dry cut 5;", 8);
        Due.fault(x, "dry more;", 8);
        Due.fault(x, "dry more sap;", 9);
        Due.fault(x, "dry more 5 6;", 11);
        Due.fault(x, "dry more 5 if;", 11);
        Due.fault(x, "dry less cut;", 9);
        Due.fault(x, "dry cut dry;", 8);
        Due.fault(x, "dry", 3);
        Due.fault(x, "dry  ", 5);
        Due.fault(x, "dry cut", 7);
        Due.fault(x, "dry more", 8);
        Due.fault(x, "dry more 5", 10);
        Due.fault(x, "dry more 5  ", 12);
        Due.fault(x, "dr", 0);
        Due.fault(x, "dry cu", 4);
        Due.fault(x, "dry cuts;", 4);
        Due.fault(x, "dry cut;gree", 8);
        Due.fault(x, "dry cutz;", 4);
        Due.fault(x, "dry cuta;", 4);
        Due.fault(x, "dry cut`;", 7);
        Due.fault(x, "dry cut{;", 7);
        Due.fault(x, "dry more 5/;", 10);
        Due.fault(x, "dry more 5:;", 10);
        Due.fault(x, "dry more -5;", 9);
        Due.fault(x, "dry more 99999;", 9);
        Due.fault(x, "dry more 9999;", 9);
        Due.fault(x, "dry more 1000;", 9);
        Due.fault(x, "dry less 1000;", 9);
        Due.fault(x, "dry more 00999;", 9);
        Due.rules(x, "dry more 0999; dry less 999; dry less 0;", 3);
        Due.fault(x, "dry cut;\u0000", 8);
        Due.fault(x, "dry cut,", 7);
        Due.fault(x, "dry \u00e4", 4);
        Due.fault(x, "proppedkings cut;", 0);
        Due.fault(x, "aaaaaaaaaaaaaaaaaaaaaaaaaaaaaaaaaaaaaaaaaaaaaa", 0);
    }

    private static void faultsOfConditions() {
        OakCourt x = Due.fiveOnTrunk(2, 100);
        Due.fault(x, "dry if", 6);
        Due.fault(x, "dry if cut;", 7);
        Due.fault(x, "dry if if 1=1 cut;", 7);
        Due.fault(x, "dry if 1 cut;", 9);
        Due.fault(x, "dry if 1 = cut;", 11);
        Due.fault(x, "dry if 1 = = 1 cut;", 11);
        Due.fault(x, "dry if 1 = 1 = 1 cut;", 13);
        Due.fault(x, "dry if 1 <= 1 cut;", 10);
        Due.fault(x, "dry if = 1 cut;", 7);
        Due.fault(x, "dry if 1 = 1;", 12);
        Due.fault(x, "dry if 1 = 1 and;", 16);
        Due.fault(x, "dry if 1 = 1 and cut;", 17);
        Due.fault(x, "dry if 1 = 1 and or 1 = 1 cut;", 17);
        Due.fault(x, "dry if and 1 = 1 cut;", 7);
        Due.fault(x, "dry if 1 = 1 not 1 = 1 cut;", 13);
        Due.fault(x, "dry if not cut;", 11);
        Due.fault(x, "dry if not and 1 = 1 cut;", 11);
        Due.fault(x, "dry if 1 not = 1 cut;", 9);
        Due.fault(x, "dry if 1 = not 1 cut;", 11);
        Due.fault(x, "dry if (1 = 1 cut;", 14);
        Due.fault(x, "dry if (1 = 1;", 13);
        Due.fault(x, "dry if 1 = 1) cut;", 12);
        Due.fault(x, "dry if () cut;", 8);
        Due.fault(x, "dry if (1) = 1 cut;", 9);
        Due.fault(x, "dry if (sap) cut;", 11);
        Due.fault(x, "dry if (1 = 1) 2 cut;", 15);
        Due.fault(x, "dry if (1 = 1) = 1 cut;", 15);
        Due.fault(x, "dry if (1 = 1)(1 = 1) cut;", 14);
        Due.fault(x, "dry if (1 = 1)) cut;", 14);
        Due.fault(x, "dry if 1 = (1 = 1) cut;", 11);
        Due.fault(x, "dry if green = 1 cut;", 7);
        Due.fault(x, "dry if kind = 1 cut;", 7);
        Due.fault(x, "dry if 1 = 1 dry cut;", 13);
        Due.fault(x, "dry if 10000 = 1 cut;", 7);
        Due.fault(x, "dry if 1 = 00001 cut;", 11);
        Due.fault(x, "dry if (1 = 1) and", 18);
        Due.fault(x, "dry if (1 = 1", 13);
        Due.fault(x, "dry if (((1 = 1) or 2 = 2)", 26);
        Due.rules(x, "dry if 9999 > 1000 cut;", 1);
    }

    private static void limits() {
        OakCourt x = Due.fiveOnTrunk(2, 100);
        Due.rules(x, "dry if (((1=1))) cut;", 1);
        Due.fault(x, "dry if ((((1=1)))) cut;", 10);
        Due.fault(x, "dry if (1=1 and (1=1 or not (1=1 and (1=1)))) cut;", 37);
        Due.rules(x, "dry if ((1=1)) and ((1=1) or ((2=1))) cut;", 1);
        Due.rules(x, "dry if (1=1)and(1=1)and(1=1)and(1=1)and(1=1) cut;", 1);
        Due.rules(x, "dry if(((1=1)))and(((1=1)))cut;", 1);
        String eight = "dry cut;".repeat(8);
        Due.rules(x, eight, 8);
        Due.rules(x, eight + "   ", 8);
        Due.fault(x, eight + "dry cut;", 64);
        Due.fault(x, eight + "  d", 66);
        Due.fault(x, eight + " 4", 65);
        Due.fault(x, eight + ";", 64);
        Due.fault(x, "dry cut;".repeat(7) + "dry cut", 63);
        StringBuilder nots = new StringBuilder("dry if ");
        for (int i = 0; i < 46; i++) nots.append("not ");
        Due.rules(x, nots + "1=1 cut;", 1);
        Due.is("46 nots", x.boughOf(1, 4), 0);
        Due.rules(x, nots + "1=2 cut;", 1);
        Due.is("46 nots of what is not so", x.boughOf(1, 4), 50);
        StringBuilder ands = new StringBuilder("dry if 1=1");
        for (int i = 0; i < 26; i++) ands.append("and 1=1");
        Due.is("its bytes", ands.length(), 192);
        Due.rules(x, ands + "cut;", 1);
        Due.is("26 ands", x.boughOf(1, 4), 0);
        String deep = "dry if 1=2or 1=1and(1=2or 1=1and(1=2or 1=1and(1=2or 1=1and 2=2)))cut;";
        Due.rules(x, deep, 1);
        Due.is("all joints on all levels", x.boughOf(1, 4), 0);
        Due.rules(x, deep.replace("2=2", "2=3"), 1);
        Due.is("all joints on all levels, not so", x.boughOf(1, 4), 50);
    }

    private static void inPlaceOfAll() {
        OakCourt x = Due.fiveOnTrunk(2, 100);
        Due.rules(x, "dry if 1=1 cut; old more 2;", 2);
        Due.fault(x, "green cut; dry if 1=2 more 9; kings", 35);
        holds("a fault leaves the rules", x, 100, 0, 0, 150, 300);
        Due.is("many", x.many(1), 2);
        Due.rules(x, "green cut;", 1);
        holds("in place of all", x, 0, 50, 48, 150, 300);
        Due.fault(x, "dry if not not (not", 19);
        Due.rules(x, "dry if 1=2 cut;", 1);
        holds("nothing is left of a faulty text", x, 100, 50, 48, 150, 300);
        Due.rules(x, "", 0);
        holds("none", x, 100, 50, 48, 150, 300);
    }
}

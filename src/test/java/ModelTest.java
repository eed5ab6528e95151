import java.util.Random;

/**
 * Long runs of calls on the class and on the Model of the document, with the same answers due of both.
 * The numbers come from seeds, so every run of this test is the same.
 */
public final class ModelTest {
    private static final int RUNS = 500;
    private static final int CALLS = 480;
    private static final int[] WILD = {Integer.MIN_VALUE, Integer.MAX_VALUE, -1, -2, -9, 9, 10, 32, 200, 201, 1000, 65536};
    private static final String[] CALLS_ALL = {
        "act", "again", "alterRow", "best", "bough", "boughOf", "change", "climbs", "cracks", "down", "down", "down", "draw",
        "fall", "feed", "forget", "game", "graft", "item", "judge", "keep", "liar", "many", "move", "often",
        "person", "personOf", "prop", "prove", "report", "room", "row", "rules", "safe", "sapFor", "seat",
        "seatAll", "seed", "sheet", "sheet", "shelf", "shelf", "sit", "span", "standing", "taken", "trace", "verdict", "weather",
        "windFor", "worst", "would", "write", "text", "bough", "person", "sit", "sit", "boughOf"
    };

    private final Random random;
    private OakCourt court = new OakCourt();
    private Model model = new Model();
    private final StringBuilder log = new StringBuilder();
    private boolean right = true;

    private ModelTest(long seed) {
        random = new Random(seed);
    }

    private void due(String call, int got, int want) {
        log.append(call).append(" answers ").append(want).append('\n');
        if (got == want) return;
        System.out.println(log + "answered " + got + ", due is " + want);
        right = false;
    }

    /** A number of 0 to n - 1, now and then one besides it, and seldom any. */
    private int n(int n) {
        int r = random.nextInt(100);
        if (r == 0) return WILD[random.nextInt(WILD.length)];
        if (r < 4) return random.nextBoolean() ? -1 : n;
        return random.nextInt(n);
    }

    private int b() {
        return n(Math.max(1, model.oak.boughs.size()));
    }

    private int p() {
        return n(Math.max(1, model.oak.people.size()));
    }

    private int from(int least, int greatest) {
        return least + n(greatest - least + 1);
    }

    private int any() {
        return random.nextBoolean() ? random.nextInt() : random.nextInt(40) - 20;
    }

    private void feedAll(String text) {
        for (int i = 0; i < text.length(); i += 8) {
            int many = Math.min(8, text.length() - i);
            long eight = random.nextLong() << 1 << 8 * many - 1;
            for (int k = 0; k < many; k++) {
                eight &= ~(255L << 8 * k);
                eight |= (text.charAt(i + k) & 255L) << 8 * k;
            }
            due("feed(" + eight + ", " + many + ")", court.feed(eight, many), model.feed(eight, many));
        }
    }

    private static final String[] FACTS = {"sap", "wind", "long", "holds", "number"};

    private String blanks() {
        return random.nextInt(3) == 0 ? " ".repeat(random.nextInt(3)) : "";
    }

    private String value() {
        switch (random.nextInt(4)) {
            case 0: return "" + random.nextInt(10);
            case 1: return "" + random.nextInt(1000);
            default: return FACTS[random.nextInt(5)];
        }
    }

    private String cond(int open) {
        StringBuilder s = new StringBuilder();
        for (int i = random.nextInt(3); i >= 0; i--) {
            while (random.nextInt(5) == 0) s.append("not ");
            if (open < 4 && random.nextInt(4) == 0 && random.nextInt(open + 1) < 2) {
                s.append(blanks()).append("(").append(cond(open + 1)).append(")");
            } else {
                s.append(value()).append(blanks()).append("<=>".charAt(random.nextInt(3))).append(blanks()).append(value());
            }
            if (i > 0) s.append(random.nextBoolean() ? " and " : " or ");
        }
        return s.toString();
    }

    private String deed() {
        switch (random.nextInt(3)) {
            case 0: return "cut";
            case 1: return "more" + " ".repeat(random.nextInt(2)) + random.nextInt(random.nextInt(20) == 0 ? 1100 : 300);
            default: return "less " + random.nextInt(random.nextInt(20) == 0 ? 1100 : 300);
        }
    }

    private String text() {
        StringBuilder s = new StringBuilder();
        int rules = random.nextInt(random.nextInt(8) == 0 ? 11 : 4);
        for (int i = 0; i < rules; i++) {
            s.append(blanks()).append(Model.KIND_NAMES[random.nextInt(6)]);
            if (rules < 6 && random.nextInt(3) > 0) s.append(" if").append(" ").append(cond(0));
            s.append(" ").append(deed()).append(blanks()).append(";").append(blanks());
        }
        String[] strange = {" ", ";", "(", ")", "not ", "9999", "10000", "if", "x", "\u0000", "\u00ff", "A", "and", "=", "`", "{", "/", ":"};
        int faults = random.nextInt(3) == 0 ? 1 + random.nextInt(2) : 0;
        for (int i = 0; i < faults && s.length() > 0; i++) {
            int at = random.nextInt(s.length());
            switch (random.nextInt(3)) {
                case 0: s.deleteCharAt(at); break;
                case 1: s.insert(at, strange[random.nextInt(strange.length)]); break;
                default: s.setLength(at);
            }
        }
        return s.length() > 200 ? s.substring(0, 200) : s.toString();
    }

    private void callOak(String name) {
        int a, b, c, d;
        switch (name) {
            case "bough":
                due(name + "(" + (a = from(1, 5)) + ", " + (b = n(model.oak.boughs.size() + 1) - 1) + ", " + (c = from(1, 9)) + ", "
                    + (d = from(1, random.nextBoolean() ? 999 : 300)) + ")", court.bough(a, b, c, d), model.bough(a, b, c, d));
                break;
            case "boughOf":
                due(name + "(" + (a = b()) + ", " + (b = n(7)) + ")", court.boughOf(a, b), model.boughOf(a, b));
                break;
            case "change":
                due(name + "(" + (a = b()) + ", " + (b = from(2, 3)) + ", " + (c = from(1, b == 2 ? 9 : 400)) + ")",
                    court.change(a, b, c), model.change(a, b, c));
                break;
            case "graft":
                due(name + "(" + (a = b()) + ", " + (b = from(1, 5)) + ")", court.graft(a, b), model.graft(a, b));
                break;
            case "weather":
                due(name + "(" + (a = n(2)) + ", " + (b = n(10)) + ")", court.weather(a, b), model.weather(a, b));
                break;
            case "text":
                feedAll(text());
                due("rules()", court.rules(), model.rules());
                break;
            case "feed":
                if (random.nextInt(4) > 0) break;
                long eight = random.nextLong();
                due(name + "(" + eight + "L, " + (a = from(1, 8)) + ")", court.feed(eight, a), model.feed(eight, a));
                break;
            case "rules":
                if (random.nextInt(8) == 0) due(name + "()", court.rules(), model.rules());
                break;
            case "person":
                due(name + "(" + (a = from(1, 200)) + ", " + (b = n(2)) + ")", court.person(a, b), model.person(a, b));
                break;
            case "personOf":
                due(name + "(" + (a = p()) + ", " + (b = n(3)) + ")", court.personOf(a, b), model.personOf(a, b));
                break;
            case "sit":
                due(name + "(" + (a = p()) + ", " + (b = b()) + ")", court.sit(a, b), model.sit(a, b));
                break;
            case "down":
                due(name + "(" + (a = p()) + ")", court.down(a), model.down(a));
                break;
            default:
                callCracks(name);
        }
    }

    private void callCracks(String name) {
        int a;
        switch (name) {
            case "cracks": due(name, court.cracks(), model.cracks()); break;
            case "worst": due(name, court.worst(), model.worst()); break;
            case "fall": if (random.nextInt(4) == 0) due(name, court.fall(), model.fall()); break;
            case "would": due(name, court.would(), model.would()); break;
            case "standing": due(name + "(" + (a = n(2)) + ")", court.standing(a), model.standing(a)); break;
            case "verdict": due(name, court.verdict(), model.verdict()); break;
            case "room": due(name + "(" + (a = b()) + ")", court.room(a), model.room(a)); break;
            case "best": due(name + "(" + (a = p()) + ")", court.best(a), model.best(a)); break;
            case "safe": due(name + "(" + (a = p()) + ")", court.safe(a), model.safe(a)); break;
            case "prop": due(name, court.prop(), model.prop()); break;
            case "windFor": due(name, court.windFor(), model.windFor()); break;
            case "sapFor": due(name, court.sapFor(), model.sapFor()); break;
            default: callSeating(name);
        }
    }

    /** A set of one to four, seldom of more or of others. */
    private int set() {
        int set = 0;
        for (int i = random.nextInt(4); i >= 0; i--) set |= 1 << random.nextInt(8);
        return random.nextInt(12) == 0 ? any() : model.oak.people.size() == 8 ? set : set & (1 << model.oak.people.size()) - 1;
    }

    private void callSeating(String name) {
        int a, b;
        switch (name) {
            case "seat":
                if (random.nextInt(3) > 0) break;
                due(name + "(" + (a = set()) + ", " + (b = n(4)) + ")", court.seat(a, b), model.seat(a, b));
                break;
            case "seatAll":
                if (random.nextInt(3) > 0) break;
                due(name + "(" + (a = set()) + ")", court.seatAll(a), model.seatAll(a));
                break;
            case "game":
                a = n(2);
                b = random.nextInt(10) == 0 ? from(1, 4) : from(1, 3);
                due(name + "(" + a + ", " + b + ")", court.game(a, b), model.game(a, b));
                due("move(" + a + ", " + b + ")", court.move(a, b), model.move(a, b));
                break;
            case "move":
                break;
            default:
                callStrangers(name);
        }
    }

    private void callStrangers(String name) {
        int a, b;
        switch (name) {
            case "report": due(name + "(" + (a = b()) + ", " + (b = n(2)) + ")", court.report(a, b), model.report(a, b)); break;
            case "forget": if (random.nextInt(4) == 0) due(name, court.forget(), model.forget()); break;
            case "span": due(name + "(" + (a = n(3)) + ")", court.span(a), model.span(a)); break;
            case "liar": due(name, court.liar(), model.liar()); break;
            case "seed": due(name + "(" + (a = any()) + ")", court.seed(a), model.seed(a)); break;
            case "draw": due(name, court.draw(), model.draw()); break;
            case "often": due(name + "(" + (a = from(1, 60)) + ")", court.often(a), model.often(a)); break;
            default: callRows(name);
        }
    }

    private void callRows(String name) {
        int a, b, c;
        switch (name) {
            case "prove": due(name + "(" + (a = b()) + ")", court.prove(a), model.prove(a)); break;
            case "row": due(name + "(" + (a = n(4)) + ", " + (b = n(3)) + ")", court.row(a, b), model.row(a, b)); break;
            case "alterRow":
                if (random.nextInt(3) > 0) break;
                due(name + "(" + (a = n(4)) + ", " + (b = n(3)) + ", " + (c = n(9)) + ")", court.alterRow(a, b, c), model.alterRow(a, b, c));
                break;
            case "judge": due(name, court.judge(), model.judge()); break;
            default: callHost(name);
        }
    }

    private void callHost(String name) {
        int a, b, c, d;
        switch (name) {
            case "sheet":
                due(name + "(" + (a = n(4)) + ", " + (b = random.nextInt(3) == 0 ? 0 : n(5)) + ", " + (c = random.nextBoolean() ? n(41) : n(9)) + ")",
                    court.sheet(a, b, c), model.sheet(a, b, c));
                break;
            case "write":
                due(name + "(" + (a = n(4)) + ", " + (b = n(8)) + ", " + (c = random.nextBoolean() ? n(9) : any()) + ")",
                    court.write(a, b, c), model.write(a, b, c));
                break;
            case "item":
                due(name + "(" + (a = n(4)) + ", " + (b = n(5)) + ", " + (c = n(8)) + ")", court.item(a, b, c), model.item(a, b, c));
                break;
            case "climbs":
                due(name + "(" + (a = p()) + ", " + (b = n(4)) + ", " + (c = n(8)) + ", " + (d = n(21)) + ")",
                    court.climbs(a, b, c, d), model.climbs(a, b, c, d));
                break;
            case "shelf":
                due(name + "(" + (a = n(4)) + ", " + (b = random.nextInt(3) > 0 ? 0 : n(3)) + ", " + (c = b == 0 ? b() : n(4)) + ")",
                    court.shelf(a, b, c), model.shelf(a, b, c));
                break;
            case "taken":
                due(name + "(" + (a = n(4)) + ", " + (b = n(15)) + ")", court.taken(a, b), model.taken(a, b));
                break;
            case "act":
                due(name + "(" + (a = n(4)) + ", " + (b = n(4)) + ", " + (c = any()) + ")", court.act(a, b, c), model.act(a, b, c));
                for (int i = 0; i <= model.many(6); i++) due("trace(" + i + ")", court.trace(i), model.trace(i));
                break;
            case "trace": due(name + "(" + (a = n(9)) + ")", court.trace(a), model.trace(a)); break;
            case "many": due(name + "(" + (a = n(7)) + ")", court.many(a), model.many(a)); break;
            case "keep": if (random.nextInt(4) == 0) due(name, court.keep(), model.keep()); break;
            case "again": if (random.nextInt(4) == 0 && (model.kept == null || model.kept.boughs.size() > random.nextInt(6))) due(name, court.again(), model.again()); break;
            default: throw new IllegalStateException(name);
        }
    }

    private void checkState() {
        for (int b = 0; b < 9; b++) {
            for (int what = 0; what < 7; what++) due("boughOf(" + b + ", " + what + ")", court.boughOf(b, what), model.boughOf(b, what));
        }
        for (int p = 0; p < 8; p++) due("personOf(" + p + ", 2)", court.personOf(p, 2), model.personOf(p, 2));
        for (int k = 0; k < 7; k++) due("many(" + k + ")", court.many(k), model.many(k));
    }

    private boolean run() {
        for (int i = random.nextInt(12); i > 0; i--) callOak("bough");
        for (int i = random.nextInt(10); i > 0; i--) callOak("person");
        int calls = random.nextInt(CALLS);
        for (int i = 0; i < calls && right; i++) callOak(CALLS_ALL[random.nextInt(CALLS_ALL.length)]);
        if (right) checkState();
        return right;
    }

    /** Texts alone, many of them. */
    private boolean runTexts() {
        for (int i = 0; i < 5; i++) callOak("bough");
        for (int i = 0; i < 40 && right; i++) {
            callOak("text");
            callOak("weather");
            for (int b = 0; b < 5; b++) due("boughOf(" + b + ", 4)", court.boughOf(b, 4), model.boughOf(b, 4));
        }
        return right;
    }

    public static void main(String[] args) {
        long first = args.length > 1 ? Long.parseLong(args[1]) : 1;
        boolean right = true;
        for (long seed = first; seed < first + RUNS && right; seed++) {
            right = new ModelTest(seed).run() && new ModelTest(-seed).runTexts();
        }
        System.out.println(right ? "all answers are the model's" : "an answer is not the model's");
        if (!right) System.exit(1);
    }
}

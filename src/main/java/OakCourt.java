/**
 * A court that sits in an oak: what its boughs hold and bear, what cracks, who falls, and what
 * two sides, strangers and readers make of it. The project's document tells every call.
 */
public final class OakCourt {
    public static final int BAD = -1, FULL = -2, NONE = -3, STATE = -4;

    private static final int NOTHING_THERE = -11;
    private static final int PLACE_OUTSIDE = -12;
    private static final int OTHER_SORT = -13;
    private static final int SIZE_BELOW_0 = -14;
    private static final int PARTED_BY_0 = -15;

    /** The trunk, the seat of who sits nowhere, a row that there is not. */
    private static final int NOWHERE = -9;
    private static final int NOBODY = 2;
    private static final int FAULT_AT_0 = -100;

    private static final int MAX_BOUGHS = 9;
    private static final int MAX_PEOPLE = 8;
    private static final int MAX_RULES = 8;
    private static final int MAX_REPORTS = 6;
    private static final int MAX_BYTES = 200;
    private static final int MAX_OPEN = 3;
    /** A condition waits with an or, an and and a value on each level, at most. */
    private static final int MAX_STACK = 16;
    private static final int MAX_SEATED = 4;
    private static final int MAX_MOVES = 4;
    private static final int MAX_LENGTH = 9;
    private static final int MAX_HOLDS = 999;
    private static final int MAX_WEATHER = 9;
    private static final int MAX_WEIGHT = 200;
    private static final int MAX_AMOUNT = 999;
    private static final int MAX_DIGITS = 4;
    private static final int MAX_DRAWS = 60;
    private static final int MAX_CLIMBS = 20;
    private static final int MAX_ITEMS = 40;
    private static final int MAX_TRACE = 30;
    private static final int PLACES = 4;

    private static final int BOUGH = 0, GREEN = 1, DRY = 2, OLD = 3, PROPPED = 4, KINGS = 5;
    private static final int BYTES = 0, SHORTS = 1, BOOLEANS = 4, MISSING = -1;

    /** Words of the rules' text; one that is 0 or more is a number. Facts and joints are also
     *  steps of a condition's code, and of NOT, AND, OR, OPEN the greater binds tighter. */
    private static final int SAP = -1, WIND = -2, LONG = -3, HOLDS = -4, NUMBER = -5;
    private static final int LOWER = -6, SAME = -7, HIGHER = -8;
    private static final int NOT = -9, AND = -10, OR = -11, OPEN = -12;
    private static final int CLOSE = -13, END = -14, IF = -15, MORE = -16, LESS = -17, CUT = -18;
    private static final int KIND_WORD = -20, UNKNOWN = -30;

    private final Oak now = new Oak();
    /** The oak on which what is only asked is tried. */
    private final Oak tried = new Oak();
    private final Oak kept = new Oak();
    private boolean isKept;
    private final Tape tape = new Tape();
    private final RuleReader reader = new RuleReader();
    private final Seating seating = new Seating();
    private final Rows rows = new Rows();
    private final Host host = new Host();
    private final Acts acts = new Acts();

    public OakCourt() {
    }

    // ---- the oak

    public int bough(int kind, int on, int length, int holds) {
        boolean onTrunk = on == -1;
        if (!isBoughKind(kind) || !onTrunk && !now.boughs.isThere(on)) return BAD;
        if (!isWithin(length, 1, MAX_LENGTH) || !isWithin(holds, 1, MAX_HOLDS)) return BAD;
        if (now.boughs.count >= MAX_BOUGHS) return FULL;
        if (!onTrunk && !now.boughs.isWhole(on)) return STATE;
        return now.boughs.grow(kind, onTrunk ? NOWHERE : on, length, holds);
    }

    public int boughOf(int b, int what) {
        if (!now.boughs.isThere(b)) return BAD;
        switch (what) {
            case 0: return now.boughs.kinds[b];
            case 1: return now.boughs.ons[b];
            case 2: return now.boughs.lengths[b];
            case 3: return now.boughs.holds[b];
            case 4: return now.boughs.holdsNow(b);
            case 5: return now.bears(b);
            case 6: return now.stateOf(b);
            default: return BAD;
        }
    }

    public int change(int b, int what, int v) {
        if (!now.boughs.isThere(b)) return BAD;
        if (what == 2 && isWithin(v, 1, MAX_LENGTH)) return replaced(now.boughs.lengths, b, v);
        if (what == 3 && isWithin(v, 1, MAX_HOLDS)) return replaced(now.boughs.holds, b, v);
        return BAD;
    }

    public int graft(int b, int kind) {
        if (!now.boughs.isThere(b) || !isBoughKind(kind)) return BAD;
        return replaced(now.boughs.kinds, b, kind);
    }

    public int weather(int what, int v) {
        if (!isWithin(what, 0, 1) || !isWithin(v, 0, MAX_WEATHER)) return BAD;
        int was = what == 0 ? now.boughs.sap : now.boughs.wind;
        if (what == 0) {
            now.boughs.sap = v;
        } else {
            now.boughs.wind = v;
        }
        return was;
    }

    // ---- the rules

    public int feed(long eight, int n) {
        if (!isWithin(n, 1, 8)) return BAD;
        if (tape.count + n > MAX_BYTES) return FULL;
        tape.append(eight, n);
        return tape.count;
    }

    public int rules() {
        int fault = reader.faultOf(tape);
        tape.count = 0;
        if (fault >= 0) return FAULT_AT_0 - fault;
        now.boughs.told.copyFrom(reader.told);
        return now.boughs.told.count;
    }

    // ---- people

    public int person(int weight, int side) {
        if (!isWithin(weight, 1, MAX_WEIGHT) || !isSide(side)) return BAD;
        if (now.people.count >= MAX_PEOPLE) return FULL;
        return now.people.join(weight, side);
    }

    public int personOf(int p, int what) {
        if (!now.people.isThere(p)) return BAD;
        switch (what) {
            case 0: return now.people.weights[p];
            case 1: return now.people.sides[p];
            case 2: return now.people.seats[p];
            default: return BAD;
        }
    }

    public int sit(int p, int b) {
        if (!now.people.isThere(p) || !now.boughs.isThere(b)) return BAD;
        if (!now.boughs.isWhole(b)) return STATE;
        return replaced(now.people.seats, p, b);
    }

    public int down(int p) {
        if (!now.people.isThere(p)) return BAD;
        return replaced(now.people.seats, p, NOWHERE);
    }

    // ---- what cracks

    public int cracks() {
        now.measure();
        return now.cracking();
    }

    public int worst() {
        now.measure();
        int b = now.leastSpare();
        return b == NOWHERE ? NONE : b;
    }

    public int fall() {
        return now.breakDown();
    }

    public int would() {
        tried.copyFrom(now);
        return tried.breakDown();
    }

    public int standing(int side) {
        if (!isSide(side)) return BAD;
        tried.copyFrom(now);
        tried.breakDown();
        return tried.people.seatedWeight(side);
    }

    public int verdict() {
        tried.copyFrom(now);
        tried.breakDown();
        int lead = tried.people.seatedWeight(0) - tried.people.seatedWeight(1);
        if (lead == 0) return NOBODY;
        return lead > 0 ? 0 : 1;
    }

    public int room(int b) {
        if (!now.boughs.isThere(b)) return BAD;
        if (!now.boughs.isWhole(b)) return STATE;
        now.measure();
        return now.roomOn(b);
    }

    public int best(int p) {
        if (!now.people.isThere(p)) return BAD;
        tryWithout(p);
        int most = -1;
        int found = NONE;
        for (int b = 0; b < tried.boughs.count; b++) {
            if (tried.boughs.isWhole(b) && tried.roomOn(b) > most) {
                most = tried.roomOn(b);
                found = b;
            }
        }
        return found;
    }

    public int safe(int p) {
        if (!now.people.isThere(p)) return BAD;
        tryWithout(p);
        int weight = now.people.weights[p];
        int set = 0;
        for (int b = 0; b < tried.boughs.count; b++) {
            if (b == now.people.seats[p] || !tried.boughs.isWhole(b)) continue;
            tried.load(b, weight);
            if (tried.cracking() == 0) set |= 1 << b;
            tried.load(b, -weight);
        }
        return set;
    }

    public int prop() {
        tried.copyFrom(now);
        tried.breakDown();
        int most = tried.people.seatedWeight(0) + tried.people.seatedWeight(1);
        int found = NONE;
        for (int b = 0; b < now.boughs.count; b++) {
            int weight = seatedIfPropped(b);
            if (weight > most) {
                most = weight;
                found = b;
            }
        }
        return found;
    }

    public int windFor() {
        int winds = crackingWinds();
        for (int wind = 0; wind <= MAX_WEATHER; wind++) {
            if (isIn(winds, wind)) return wind;
        }
        return NONE;
    }

    public int sapFor() {
        tried.copyFrom(now);
        for (int sap = 0; sap <= MAX_WEATHER; sap++) {
            tried.boughs.sap = sap;
            tried.measure();
            if (tried.cracking() == 0) return sap;
        }
        return NONE;
    }

    private void tryWithout(int p) {
        tried.copyFrom(now);
        tried.people.seats[p] = NOWHERE;
        tried.measure();
    }

    private int seatedIfPropped(int b) {
        tried.copyFrom(now);
        tried.boughs.kinds[b] = PROPPED;
        tried.breakDown();
        return tried.people.seatedWeight(0) + tried.people.seatedWeight(1);
    }

    private int crackingWinds() {
        tried.copyFrom(now);
        int winds = 0;
        for (int wind = 0; wind <= MAX_WEATHER; wind++) {
            tried.boughs.wind = wind;
            tried.measure();
            if (tried.cracking() != 0) winds |= 1 << wind;
        }
        return winds;
    }

    // ---- seating

    public int seat(int set, int i) {
        if (!isSeatable(set) || !isWithin(i, 0, MAX_SEATED - 1)) return BAD;
        if (!seating.finds(now, set) || i >= seating.count) return NONE;
        return seating.seats[i];
    }

    public int seatAll(int set) {
        if (!isSeatable(set)) return BAD;
        if (!seating.finds(now, set)) return NONE;
        for (int i = 0; i < seating.count; i++) {
            now.people.seats[seating.members[i]] = seating.seats[i];
        }
        return seating.count;
    }

    public int game(int side, int n) {
        if (!isSide(side) || !isWithin(n, 1, MAX_MOVES)) return BAD;
        return seating.gameValue(now, side, n);
    }

    public int move(int side, int n) {
        if (!isSide(side) || !isWithin(n, 1, MAX_MOVES)) return BAD;
        return seating.firstMove(now, side, n);
    }

    private boolean isSeatable(int set) {
        return (set >>> now.people.count) == 0 && Integer.bitCount(set) <= MAX_SEATED;
    }

    // ---- strangers, winds

    public int report(int b, int cracked) {
        if (!now.boughs.isThere(b) || !isWithin(cracked, 0, 1)) return BAD;
        if (now.reports.count >= MAX_REPORTS) return FULL;
        return now.reports.note(b, cracked);
    }

    public int forget() {
        int were = now.reports.count;
        now.reports.count = 0;
        return were;
    }

    public int span(int what) {
        if (!isWithin(what, 0, 2)) return BAD;
        now.measure();
        now.reports.fit(now, NOWHERE);
        if (what == 0) return now.reports.fitting();
        if (now.reports.fitting() == 0) return NONE;
        return what == 1 ? now.reports.least : now.reports.greatest;
    }

    public int liar() {
        now.measure();
        now.reports.fit(now, NOWHERE);
        if (now.reports.fitting() > 0) return NONE;
        for (int r = 0; r < now.reports.count; r++) {
            now.reports.fit(now, r);
            if (now.reports.fitting() > 0) return r;
        }
        return NONE;
    }

    public int seed(int v) {
        int was = now.z;
        now.z = v;
        return was;
    }

    public int draw() {
        now.z = drawnFrom(now.z);
        now.boughs.wind = windOf(now.z);
        return now.boughs.wind;
    }

    public int often(int n) {
        if (!isWithin(n, 1, MAX_DRAWS)) return BAD;
        int winds = crackingWinds();
        int z = now.z;
        int times = 0;
        for (int i = 0; i < n; i++) {
            z = drawnFrom(z);
            if (isIn(winds, windOf(z))) times++;
        }
        return times;
    }

    private static int drawnFrom(int z) {
        return z * 1103515245 + 12345;
    }

    private static int windOf(int z) {
        return (z >>> 16) % 10;
    }

    // ---- rows

    public int prove(int b) {
        if (!now.boughs.isThere(b)) return BAD;
        rows.tell(now, b);
        return rows.count;
    }

    public int row(int k, int what) {
        return rows.has(k, what) ? rows.cells[k][what] : NOWHERE;
    }

    public int alterRow(int k, int what, int v) {
        return rows.has(k, what) ? replaced(rows.cells[k], what, v) : NOWHERE;
    }

    public int judge() {
        return rows.firstWrong(now);
    }

    // ---- the host

    public int sheet(int sheet, int sort, int n) {
        if (!isPlace(sheet) || !isWithin(sort, MISSING, BOOLEANS)) return BAD;
        if (sort == MISSING) {
            host.sorts[sheet] = MISSING;
            return 1;
        }
        if (n > MAX_ITEMS) return BAD;
        if (n < 0) return SIZE_BELOW_0;
        host.lay(sheet, sort, n);
        return 1;
    }

    public int write(int sheet, int i, int v) {
        if (!isPlace(sheet)) return BAD;
        if (host.sorts[sheet] == MISSING) return NOTHING_THERE;
        if (!host.hasItem(sheet, i)) return PLACE_OUTSIDE;
        host.items[sheet][i] = narrowed(host.sorts[sheet], v);
        return 1;
    }

    public int item(int sheet, int sort, int i) {
        if (!isPlace(sheet) || !isWithin(sort, BYTES, BOOLEANS)) return BAD;
        int refusal = host.refusalOf(sheet, sort);
        if (refusal != 0) return refusal;
        if (!host.hasItem(sheet, i)) return PLACE_OUTSIDE;
        return (int) host.items[sheet][i];
    }

    public int climbs(int p, int sheet, int i, int n) {
        if (!now.people.isThere(p) || !isPlace(sheet) || !isWithin(n, 0, MAX_CLIMBS)) return BAD;
        int refusal = host.refusalOf(sheet, BYTES);
        if (refusal != 0) return refusal;
        int times = 0;
        for (int k = 0; k < n; k++) {
            if (!host.hasItem(sheet, i + k)) return PLACE_OUTSIDE;
            int b = (int) host.items[sheet][i + k];
            if (now.boughs.isWhole(b)) {
                now.people.seats[p] = b;
                times++;
            }
        }
        return times;
    }

    public int shelf(int shelf, int what, int n) {
        if (!isPlace(shelf)) return BAD;
        switch (what) {
            case 0:
                if (!now.boughs.isThere(n)) return BAD;
                host.shelveBough(shelf, n);
                return 1;
            case 1:
                if (!isPlace(n)) return BAD;
                host.shelveRow(shelf, n);
                return 1;
            case 2:
                host.clear(shelf);
                return 1;
            default:
                return BAD;
        }
    }

    public int taken(int shelf, int as) {
        boolean asKind = isWithin(as, BOUGH, KINGS);
        if (!isPlace(shelf) || !asKind && !isWithin(as, 10, 14)) return BAD;
        if (host.isRow(shelf)) return host.rowSorts[shelf] == as - 10 ? host.numbers[shelf] : OTHER_SORT;
        int b = boughOn(shelf);
        if (b == NOWHERE) return NOTHING_THERE;
        return asKind && isKindOf(now.boughs.kinds[b], as) ? b : OTHER_SORT;
    }

    public int act(int shelf, int act, int x) {
        acts.ran = 0;
        if (!isPlace(shelf) || !isWithin(act, 0, 3)) return 0;
        int b = boughOn(shelf);
        if (b == NOWHERE) return 0;
        acts.take(now.boughs.kinds[b], b, now.boughs.lengths[b]);
        int answer;
        switch (act) {
            case 0: answer = acts.sways(x); break;
            case 1: answer = acts.bends(x); break;
            case 2: answer = acts.shares(x); break;
            default: answer = acts.tells(x); break;
        }
        return acts.parted ? PARTED_BY_0 : answer;
    }

    public int trace(int i) {
        return isWithin(i, 0, acts.ran - 1) ? acts.bodies[i] : NONE;
    }

    public int many(int what) {
        switch (what) {
            case 0: return now.boughs.count;
            case 1: return now.boughs.told.count;
            case 2: return now.people.count;
            case 3: return now.reports.count;
            case 4: return rows.count;
            case 5: return tape.count;
            case 6: return acts.ran;
            default: return BAD;
        }
    }

    /** The bough on a shelf, if it is still there: a bough is held by its number alone. */
    private int boughOn(int shelf) {
        boolean held = host.isBough(shelf) && now.boughs.isThere(host.numbers[shelf]);
        return held ? host.numbers[shelf] : NOWHERE;
    }

    private static long narrowed(int sort, int v) {
        switch (sort) {
            case BYTES: return (byte) v;
            case SHORTS: return (short) v;
            case BOOLEANS: return v != 0 ? 1 : 0;
            default: return v;
        }
    }

    // ---- kept

    public int keep() {
        kept.copyFrom(now);
        isKept = true;
        return 1;
    }

    public int again() {
        if (!isKept) return NONE;
        now.copyFrom(kept);
        return now.boughs.count;
    }

    // ---- what all of it asks

    private static boolean isWithin(int v, int least, int greatest) {
        return v >= least && v <= greatest;
    }

    private static boolean isBoughKind(int kind) {
        return isWithin(kind, GREEN, KINGS);
    }

    private static boolean isSide(int side) {
        return side == 0 || side == 1;
    }

    private static boolean isPlace(int place) {
        return isWithin(place, 0, PLACES - 1);
    }

    private static boolean isIn(int set, int i) {
        return (set >> i & 1) != 0;
    }

    private static boolean isKindOf(int kind, int as) {
        return as == BOUGH || as == kind || as == DRY && kind == OLD || as == PROPPED && kind == KINGS;
    }

    private static int replaced(int[] cells, int i, int v) {
        int was = cells[i];
        cells[i] = v;
        return was;
    }

    private static void copyRow(int[] from, int[] to) {
        System.arraycopy(from, 0, to, 0, Math.min(from.length, to.length));
    }

    /** THE TAPE, and the words on it. */
    private static final class Tape {
        int count;
        private final int[] bytes = new int[MAX_BYTES];

        void append(long eight, int n) {
            for (int i = 0; i < n && count < MAX_BYTES; i++) {
                bytes[count] = (int) (eight >>> 8 * i) & 255;
                count++;
            }
        }

        boolean isBlank(int at) {
            return bytes[at] == ' ';
        }

        int endOfWord(int from) {
            boolean name = isLetter(bytes[from]);
            if (!name && !isDigit(bytes[from])) return from + 1;
            for (int i = from + 1; i < count; i++) {
                if (name ? !isLetter(bytes[i]) : !isDigit(bytes[i])) return i;
            }
            return count;
        }

        int word(int from, int to) {
            if (isLetter(bytes[from])) return nameWord(from, to);
            if (isDigit(bytes[from])) return numberWord(from, to);
            switch (bytes[from]) {
                case '<': return LOWER;
                case '=': return SAME;
                case '>': return HIGHER;
                case '(': return OPEN;
                case ')': return CLOSE;
                case ';': return END;
                default: return UNKNOWN;
            }
        }

        private int numberWord(int from, int to) {
            if (to - from > MAX_DIGITS) return UNKNOWN;
            int number = 0;
            for (int i = from; i < to; i++) number = number * 10 + (bytes[i] - '0');
            return number;
        }

        private int nameWord(int from, int to) {
            if (isName("bough", from, to)) return KIND_WORD - BOUGH;
            if (isName("green", from, to)) return KIND_WORD - GREEN;
            if (isName("dry", from, to)) return KIND_WORD - DRY;
            if (isName("old", from, to)) return KIND_WORD - OLD;
            if (isName("propped", from, to)) return KIND_WORD - PROPPED;
            if (isName("kings", from, to)) return KIND_WORD - KINGS;
            if (isName("more", from, to)) return MORE;
            if (isName("less", from, to)) return LESS;
            if (isName("cut", from, to)) return CUT;
            if (isName("if", from, to)) return IF;
            if (isName("not", from, to)) return NOT;
            if (isName("and", from, to)) return AND;
            if (isName("or", from, to)) return OR;
            if (isName("sap", from, to)) return SAP;
            if (isName("wind", from, to)) return WIND;
            if (isName("long", from, to)) return LONG;
            if (isName("holds", from, to)) return HOLDS;
            if (isName("number", from, to)) return NUMBER;
            return UNKNOWN;
        }

        private boolean isName(String name, int from, int to) {
            if (to - from != name.length()) return false;
            for (int i = from; i < to; i++) {
                if (bytes[i] != name.charAt(i - from)) return false;
            }
            return true;
        }

        private static boolean isLetter(int b) {
            return b >= 'a' && b <= 'z';
        }

        private static boolean isDigit(int b) {
            return b >= '0' && b <= '9';
        }
    }

    /** Reads the rules' text word by word; what may come next is all that it has to know. */
    private static final class RuleReader {
        private static final int AT_KIND = 0, AT_DEED = 1, AT_AMOUNT = 2, AT_END = 3;
        private static final int AT_ONE = 4, AT_SIGN = 5, AT_VALUE = 6, BEHIND_ONE = 7;

        final Rules told = new Rules();
        private int due;
        private int sign;
        private int open;
        private int steps;
        /** Joints whose right side is still to come, and what is open. */
        private final int[] waiting = new int[MAX_BYTES];
        private int waits;

        /** The FAULT of the text on a tape, or NOWHERE. */
        int faultOf(Tape tape) {
            told.count = 0;
            due = AT_KIND;
            open = 0;
            steps = 0;
            waits = 0;
            int behind = 0;
            for (int i = 0; i < tape.count; i++) {
                if (i < behind || tape.isBlank(i)) continue;
                behind = tape.endOfWord(i);
                if (told.count >= MAX_RULES || !takes(tape.word(i, behind))) return i;
            }
            return due == AT_KIND ? NOWHERE : tape.count;
        }

        private boolean takes(int word) {
            switch (due) {
                case AT_KIND: return takesKind(word);
                case AT_DEED: return takesIf(word) || takesDeed(word);
                case AT_AMOUNT: return takesAmount(word);
                case AT_END: return takesEnd(word);
                case AT_ONE: return takesOne(word);
                case AT_SIGN: return takesSign(word);
                case AT_VALUE: return takesValue(word);
                default: return takesJoint(word) || open == 0 && takesDeed(word);
            }
        }

        private boolean takesKind(int word) {
            if (!isWithin(KIND_WORD - word, BOUGH, KINGS)) return false;
            told.kinds[told.count] = KIND_WORD - word;
            due = AT_DEED;
            return true;
        }

        private boolean takesIf(int word) {
            if (word != IF) return false;
            due = AT_ONE;
            return true;
        }

        private boolean takesDeed(int word) {
            if (word != MORE && word != LESS && word != CUT) return false;
            settle(OR);
            told.deeds[told.count] = word;
            due = word == CUT ? AT_END : AT_AMOUNT;
            return true;
        }

        private boolean takesAmount(int word) {
            if (!isWithin(word, 0, MAX_AMOUNT)) return false;
            told.amounts[told.count] = word;
            due = AT_END;
            return true;
        }

        private boolean takesEnd(int word) {
            if (word != END) return false;
            told.ends[told.count] = steps;
            told.count++;
            due = AT_KIND;
            return true;
        }

        private boolean takesOne(int word) {
            if (word == NOT) {
                await(NOT);
                return true;
            }
            if (word == OPEN && open < MAX_OPEN) {
                open++;
                await(OPEN);
                return true;
            }
            if (!isValue(word)) return false;
            step(word);
            due = AT_SIGN;
            return true;
        }

        private boolean takesSign(int word) {
            if (!isWithin(word, HIGHER, LOWER)) return false;
            sign = word;
            due = AT_VALUE;
            return true;
        }

        private boolean takesValue(int word) {
            if (!isValue(word)) return false;
            step(word);
            step(sign);
            due = BEHIND_ONE;
            return true;
        }

        private boolean takesJoint(int word) {
            if (word == AND || word == OR) {
                settle(word);
                await(word);
                due = AT_ONE;
                return true;
            }
            if (word != CLOSE || open == 0) return false;
            settle(OR);
            waits = Math.max(0, waits - 1);
            open--;
            return true;
        }

        private static boolean isValue(int word) {
            return word >= NUMBER;
        }

        private void await(int joint) {
            if (waits < MAX_BYTES) {
                waiting[waits] = joint;
                waits++;
            }
        }

        /** Joints that bind at least as tight as one come ahead of it. */
        private void settle(int joint) {
            for (int i = waits - 1; i >= 0 && waiting[i] >= joint; i--) {
                step(waiting[i]);
                waits = i;
            }
        }

        private void step(int word) {
            if (steps < MAX_BYTES) {
                told.code[steps] = word;
                steps++;
            }
        }
    }

    /** THE RULES, their conditions as code that works on a stack. */
    private static final class Rules {
        int count;
        final int[] kinds = new int[MAX_RULES];
        final int[] deeds = new int[MAX_RULES];
        final int[] amounts = new int[MAX_RULES];
        /** Where the code of each condition ends; it begins where that of the rule ahead ends. */
        final int[] ends = new int[MAX_RULES];
        final int[] code = new int[MAX_BYTES];
        private final int[] facts = new int[5];
        private final int[] stack = new int[MAX_STACK];

        void copyFrom(Rules other) {
            count = other.count;
            copyRow(other.kinds, kinds);
            copyRow(other.deeds, deeds);
            copyRow(other.amounts, amounts);
            copyRow(other.ends, ends);
            copyRow(other.code, code);
        }

        void setFacts(int sap, int wind, int length, int holds, int number) {
            facts[SAP - SAP] = sap;
            facts[SAP - WIND] = wind;
            facts[SAP - LONG] = length;
            facts[SAP - HOLDS] = holds;
            facts[SAP - NUMBER] = number;
        }

        /** What the bough of the facts holds by the first rule that is for it. */
        int changed(int kind) {
            int holds = facts[SAP - HOLDS];
            int from = 0;
            for (int r = 0; r < count; r++) {
                if (isKindOf(kind, kinds[r]) && isSo(from, ends[r])) return changedBy(r, holds);
                from = ends[r];
            }
            return holds;
        }

        private int changedBy(int r, int holds) {
            if (deeds[r] == MORE) return holds + amounts[r];
            if (deeds[r] == LESS) return Math.max(0, holds - amounts[r]);
            return 0;
        }

        private boolean isSo(int from, int to) {
            int top = 0;
            for (int i = from; i < to; i++) {
                int step = code[i];
                if (step >= NUMBER) {
                    if (top < MAX_STACK) stack[top++] = step >= 0 ? step : facts[SAP - step];
                } else if (step == NOT) {
                    if (top > 0) stack[top - 1] = 1 - stack[top - 1];
                } else if (top > 1) {
                    top--;
                    stack[top - 1] = joined(step, stack[top - 1], stack[top]) ? 1 : 0;
                }
            }
            return top == 0 || stack[top - 1] != 0;
        }

        private static boolean joined(int joint, int left, int right) {
            switch (joint) {
                case LOWER: return left < right;
                case SAME: return left == right;
                case HIGHER: return left > right;
                case AND: return left != 0 && right != 0;
                default: return left != 0 || right != 0;
            }
        }
    }

    /** The boughs, the weather that they stand in, and the rules that they hold by. */
    private static final class Boughs {
        int count;
        final int[] kinds = new int[MAX_BOUGHS];
        final int[] ons = new int[MAX_BOUGHS];
        final int[] lengths = new int[MAX_BOUGHS];
        final int[] holds = new int[MAX_BOUGHS];
        /** For each the set of all that it is above; what it grows on never changes. */
        private final int[] paths = new int[MAX_BOUGHS];
        int broken;
        int sap;
        int wind;
        final Rules told = new Rules();

        void copyFrom(Boughs other) {
            count = other.count;
            copyRow(other.kinds, kinds);
            copyRow(other.ons, ons);
            copyRow(other.lengths, lengths);
            copyRow(other.holds, holds);
            copyRow(other.paths, paths);
            broken = other.broken;
            sap = other.sap;
            wind = other.wind;
            told.copyFrom(other.told);
        }

        int grow(int kind, int on, int length, int hold) {
            int b = count;
            kinds[b] = kind;
            ons[b] = on;
            lengths[b] = length;
            holds[b] = hold;
            paths[b] = 1 << b | (isThere(on) ? paths[on] : 0);
            count++;
            return b;
        }

        boolean isThere(int b) {
            return b >= 0 && b < count;
        }

        boolean isWhole(int b) {
            return isThere(b) && !isIn(broken, b);
        }

        boolean isAbove(int b, int under) {
            return isThere(b) && isIn(paths[b], under);
        }

        int holdsNow(int b) {
            told.setFacts(sap, wind, lengths[b], holds[b], b);
            int h = told.changed(kinds[b]);
            switch (kinds[b]) {
                case GREEN: return h + 10 * sap;
                case DRY: return h / 2;
                case OLD: return Math.max(0, h / 2 - lengths[b]);
                case PROPPED: return h + 50;
                default: return 2 * (h + 50);
            }
        }
    }

    /** The people, and where they sit. */
    private static final class People {
        int count;
        final int[] weights = new int[MAX_PEOPLE];
        final int[] sides = new int[MAX_PEOPLE];
        final int[] seats = new int[MAX_PEOPLE];

        void copyFrom(People other) {
            count = other.count;
            copyRow(other.weights, weights);
            copyRow(other.sides, sides);
            copyRow(other.seats, seats);
        }

        int join(int weight, int side) {
            int p = count;
            weights[p] = weight;
            sides[p] = side;
            seats[p] = NOWHERE;
            count++;
            return p;
        }

        boolean isThere(int p) {
            return p >= 0 && p < count;
        }

        int seatedWeight(int side) {
            int sum = 0;
            for (int p = 0; p < count; p++) {
                if (sides[p] == side && seats[p] != NOWHERE) sum += weights[p];
            }
            return sum;
        }

        int firstUnseated(int side) {
            for (int p = 0; p < count; p++) {
                if (sides[p] == side && seats[p] == NOWHERE) return p;
            }
            return NOWHERE;
        }
    }

    /** The reports of a stranger, and the weights that fit them. */
    private static final class Reports {
        int count;
        private final int[] boughs = new int[MAX_REPORTS];
        private final int[] cracked = new int[MAX_REPORTS];
        int least;
        int greatest;

        void copyFrom(Reports other) {
            count = other.count;
            copyRow(other.boughs, boughs);
            copyRow(other.cracked, cracked);
        }

        int note(int b, int crack) {
            int r = count;
            boughs[r] = b;
            cracked[r] = crack;
            count++;
            return r;
        }

        /** Finds the weights that fit all reports but one, on an oak that is measured. */
        void fit(Oak oak, int leftOut) {
            least = 1;
            greatest = MAX_WEIGHT;
            for (int r = 0; r < count; r++) {
                if (r != leftOut) narrow(oak, r);
            }
        }

        // Who is heavier cracks no less, so those that fit lie between two bounds.
        private void narrow(Oak oak, int r) {
            if (!oak.boughs.isWhole(boughs[r])) {
                greatest = 0;
                return;
            }
            int cracksFrom = oak.cracking() != 0 ? 1 : oak.roomOn(boughs[r]) + 1;
            if (cracked[r] == 1) {
                least = Math.max(least, cracksFrom);
            } else {
                greatest = Math.min(greatest, cracksFrom - 1);
            }
        }

        int fitting() {
            return Math.max(0, greatest - least + 1);
        }
    }

    /** All that is kept, and what cracks of it. */
    private static final class Oak {
        final Boughs boughs = new Boughs();
        final People people = new People();
        final Reports reports = new Reports();
        int z = 1;
        /** HOLDS NOW less BEARS of each bough, from measure() on. */
        private final int[] spare = new int[MAX_BOUGHS];

        void copyFrom(Oak other) {
            boughs.copyFrom(other.boughs);
            people.copyFrom(other.people);
            reports.copyFrom(other.reports);
            z = other.z;
        }

        int bears(int b) {
            int sum = boughs.wind * boughs.lengths[b];
            for (int p = 0; p < people.count; p++) {
                if (boughs.isAbove(people.seats[p], b)) sum += people.weights[p];
            }
            return sum;
        }

        void measure() {
            for (int b = 0; b < boughs.count; b++) spare[b] = boughs.holdsNow(b) - bears(b);
        }

        void load(int b, int weight) {
            for (int under = 0; under < boughs.count; under++) {
                if (boughs.isAbove(b, under)) spare[under] -= weight;
            }
        }

        int cracking() {
            int set = 0;
            for (int b = 0; b < boughs.count; b++) {
                if (spare[b] < 0 && boughs.isWhole(b)) set |= 1 << b;
            }
            return set;
        }

        int stateOf(int b) {
            if (!boughs.isWhole(b)) return 2;
            return bears(b) > boughs.holdsNow(b) ? 1 : 0;
        }

        int leastSpare() {
            int found = NOWHERE;
            for (int b = 0; b < boughs.count; b++) {
                if (boughs.isWhole(b) && (found == NOWHERE || spare[b] < spare[found])) found = b;
            }
            return found;
        }

        int roomOn(int b) {
            int least = spare[b];
            for (int under = 0; under < boughs.count; under++) {
                if (boughs.isAbove(b, under)) least = Math.min(least, spare[under]);
            }
            return Math.max(0, least);
        }

        /** A FALL: how many sit nowhere by it. */
        int breakDown() {
            measure();
            int fallen = 0;
            for (int i = 0; i < MAX_BOUGHS; i++) {
                int b = leastSpare();
                if (b == NOWHERE || spare[b] >= 0) return fallen;
                fallen += breakOff(b);
            }
            return fallen;
        }

        private int breakOff(int under) {
            for (int b = 0; b < boughs.count; b++) {
                if (boughs.isAbove(b, under)) boughs.broken |= 1 << b;
            }
            int fallen = 0;
            for (int p = 0; p < people.count; p++) {
                int b = people.seats[p];
                if (!boughs.isAbove(b, under)) continue;
                load(b, -people.weights[p]);
                people.seats[p] = NOWHERE;
                fallen++;
            }
            return fallen;
        }
    }

    /** SEATING and the GAME, each on a copy of the oak. */
    private static final class Seating {
        int count;
        final int[] members = new int[MAX_SEATED];
        final int[] seats = new int[MAX_SEATED];
        private final Oak oak = new Oak();

        boolean finds(Oak now, int set) {
            oak.copyFrom(now);
            count = 0;
            for (int p = 0; p < oak.people.count; p++) {
                if (!isIn(set, p) || count >= MAX_SEATED) continue;
                members[count] = p;
                count++;
                oak.people.seats[p] = NOWHERE;
            }
            oak.measure();
            return oak.cracking() == 0 && seatsFrom(0);
        }

        // Who sits down never mends a crack, so a row that cracks is given up at once.
        private boolean seatsFrom(int i) {
            if (i >= count) return true;
            int weight = oak.people.weights[members[i]];
            for (int b = 0; b < oak.boughs.count; b++) {
                if (!oak.boughs.isWhole(b)) continue;
                seats[i] = b;
                oak.load(b, weight);
                if (oak.cracking() == 0 && seatsFrom(i + 1)) return true;
                oak.load(b, -weight);
            }
            return false;
        }

        int gameValue(Oak now, int side, int moves) {
            oak.copyFrom(now);
            oak.measure();
            return valueOf(side, moves);
        }

        int firstMove(Oak now, int side, int moves) {
            int value = gameValue(now, side, moves);
            int p = oak.people.firstUnseated(side);
            if (p == NOWHERE) return NONE;
            for (int b = 0; b < oak.boughs.count; b++) {
                if (oak.boughs.isWhole(b) && valueBehind(p, b, moves) == value) return b;
            }
            return NONE;
        }

        private int valueOf(int side, int left) {
            int p = oak.people.firstUnseated(side);
            if (left <= 0 || p == NOWHERE) return NOBODY;
            boolean moved = false;
            int value = 1 - side;
            for (int b = 0; b < oak.boughs.count && value != side; b++) {
                if (!oak.boughs.isWhole(b)) continue;
                moved = true;
                int reached = valueBehind(p, b, left);
                if (reached != 1 - side) value = reached;
            }
            return moved ? value : NOBODY;
        }

        private int valueBehind(int p, int b, int left) {
            int side = oak.people.sides[p];
            int weight = oak.people.weights[p];
            oak.people.seats[p] = b;
            oak.load(b, weight);
            int value = oak.cracking() != 0 ? 1 - side : valueOf(1 - side, left - 1);
            oak.load(b, -weight);
            oak.people.seats[p] = NOWHERE;
            return value;
        }
    }

    /** ROWS down to the trunk, and THE READER of them. */
    private static final class Rows {
        int count;
        /** Of each: BOUGH, BEARS, HOLDS NOW. */
        final int[][] cells = new int[MAX_BOUGHS][3];

        boolean has(int k, int what) {
            return k >= 0 && k < count && what >= 0 && what < 3;
        }

        void tell(Oak oak, int top) {
            int b = top;
            count = 0;
            for (int k = 0; k < MAX_BOUGHS && oak.boughs.isThere(b); k++) {
                cells[k][0] = b;
                cells[k][1] = oak.bears(b);
                cells[k][2] = oak.boughs.holdsNow(b);
                count = k + 1;
                b = oak.boughs.ons[b];
            }
        }

        /** 0 if all is right, else 1 more than the first that isn't. */
        int firstWrong(Oak oak) {
            int next = NOWHERE;
            for (int k = 0; k < count; k++) {
                int b = cells[k][0];
                if (!oak.boughs.isThere(b) || k > 0 && b != next) return k + 1;
                if (cells[k][1] != oak.bears(b) || cells[k][2] != oak.boughs.holdsNow(b)) return k + 1;
                next = oak.boughs.ons[b];
            }
            return next == NOWHERE ? 0 : count;
        }
    }

    /** Sheets and shelves. */
    private static final class Host {
        private static final int HOLDS_NOTHING = 0, HOLDS_BOUGH = 1, HOLDS_ROW = 2;

        final int[] sorts = new int[PLACES];
        private final int[] sizes = new int[PLACES];
        /** Narrowed when written, so one row of longs serves every sort. */
        final long[][] items = new long[PLACES][MAX_ITEMS];
        private final int[] held = new int[PLACES];
        /** The number of the bough, or how many items the row has. */
        final int[] numbers = new int[PLACES];
        /** A row stays on its shelf when its sheet becomes another. */
        final int[] rowSorts = new int[PLACES];

        Host() {
            for (int s = 0; s < PLACES; s++) sorts[s] = MISSING;
        }

        void lay(int sheet, int sort, int n) {
            sorts[sheet] = sort;
            sizes[sheet] = n;
            for (int i = 0; i < MAX_ITEMS; i++) items[sheet][i] = 0;
        }

        /** Of a sheet taken for a sort, whatever is asked of it then; 0 if it is of that sort. */
        int refusalOf(int sheet, int sort) {
            if (sorts[sheet] == MISSING) return NOTHING_THERE;
            return sorts[sheet] == sort ? 0 : OTHER_SORT;
        }

        boolean hasItem(int sheet, int i) {
            return i >= 0 && i < sizes[sheet];
        }

        void shelveBough(int shelf, int b) {
            held[shelf] = HOLDS_BOUGH;
            numbers[shelf] = b;
        }

        void shelveRow(int shelf, int sheet) {
            held[shelf] = sorts[sheet] == MISSING ? HOLDS_NOTHING : HOLDS_ROW;
            numbers[shelf] = sizes[sheet];
            rowSorts[shelf] = sorts[sheet];
        }

        void clear(int shelf) {
            held[shelf] = HOLDS_NOTHING;
        }

        boolean isBough(int shelf) {
            return held[shelf] == HOLDS_BOUGH;
        }

        boolean isRow(int shelf) {
            return held[shelf] == HOLDS_ROW;
        }
    }

    /** The acts of a thing by its kind, and THE TRACE of their bodies. */
    private static final class Acts {
        int ran;
        final int[] bodies = new int[MAX_TRACE];
        boolean parted;
        private int kind;
        private int n;
        private int a;

        void take(int thingKind, int number, int length) {
            kind = thingKind;
            n = number;
            a = length;
            parted = false;
        }

        /** Behind a parting by 0 no body runs any more, though the sums around it are still made. */
        private void begin(int body) {
            if (!parted && ran < MAX_TRACE) {
                bodies[ran] = body;
                ran++;
            }
        }

        int sways(int x) {
            switch (kind) {
                case GREEN:
                    begin(20);
                    return plainSways(x) * 3;
                case OLD:
                    begin(50);
                    return plainSways(x) ^ n;
                default:
                    return plainSways(x);
            }
        }

        int bends(int x) {
            switch (kind) {
                case DRY:
                case OLD:
                    begin(30);
                    return plainBends(x) - a;
                case KINGS:
                    begin(60);
                    return 0 - plainBends(x);
                default:
                    return plainBends(x);
            }
        }

        int shares(int x) {
            switch (kind) {
                case PROPPED:
                    return proppedShares(x);
                case KINGS:
                    begin(61);
                    return proppedShares(x) + sways(a);
                default:
                    return plainShares(x);
            }
        }

        int tells(int x) {
            if (kind != OLD) return plainTells(x);
            begin(51);
            return plainTells(x) + shares(n);
        }

        private int plainSways(int x) {
            begin(10);
            return x + n;
        }

        private int plainBends(int x) {
            begin(11);
            return sways(x) * 2;
        }

        private int proppedShares(int x) {
            begin(40);
            return plainShares(x + 1);
        }

        private int plainShares(int x) {
            begin(12);
            if (a == n) {
                parted = true;
                return 0;
            }
            return x / (a - n);
        }

        private int plainTells(int x) {
            begin(13);
            return bends(x) ^ a;
        }
    }
}

import java.util.ArrayList;
import java.util.List;

/**
 * The document once more, as literally as can be and as slow as it likes: each question tries all
 * that there is on a copy of the oak. ModelTest sets the class against it.
 */
final class Model {
    static final int BAD = -1, FULL = -2, NONE = -3, STATE = -4, NO = -9;

    // ---- the things of the oak

    static final class Bough {
        int kind, on, length, holds;
        boolean broken;

        Bough copy() {
            Bough b = new Bough();
            b.kind = kind;
            b.on = on;
            b.length = length;
            b.holds = holds;
            b.broken = broken;
            return b;
        }
    }

    static final class Person {
        int weight, side, sits = NO;

        Person copy() {
            Person p = new Person();
            p.weight = weight;
            p.side = side;
            p.sits = sits;
            return p;
        }
    }

    static final class Report {
        final int bough;
        final boolean cracked;

        Report(int bough, boolean cracked) {
            this.bough = bough;
            this.cracked = cracked;
        }
    }

    interface Cond {
        boolean holds(Oak oak, int b);
    }

    interface Value {
        int of(Oak oak, int b);
    }

    static final class Rule {
        String kind;
        Cond cond = (oak, b) -> true;
        String deed;
        int n;
    }

    static final String[] KIND_NAMES = {"bough", "green", "dry", "old", "propped", "kings"};

    static final class Oak {
        List<Bough> boughs = new ArrayList<>();
        List<Person> people = new ArrayList<>();
        List<Report> reports = new ArrayList<>();
        List<Rule> rules = new ArrayList<>();
        int sap, wind, z = 1;

        Oak copy() {
            Oak o = new Oak();
            for (Bough b : boughs) o.boughs.add(b.copy());
            for (Person p : people) o.people.add(p.copy());
            o.reports.addAll(reports);
            o.rules.addAll(rules);
            o.sap = sap;
            o.wind = wind;
            o.z = z;
            return o;
        }

        boolean bough(int b) {
            return b >= 0 && b < boughs.size();
        }

        boolean person(int p) {
            return p >= 0 && p < people.size();
        }

        boolean above(int upper, int lower) {
            if (upper == NO) return false;
            return upper == lower || above(boughs.get(upper).on, lower);
        }

        static boolean kindUnder(int kind, String name) {
            switch (kind) {
                case 1: return name.equals("green") || name.equals("bough");
                case 2: return name.equals("dry") || name.equals("bough");
                case 3: return name.equals("old") || kindUnder(2, name);
                case 4: return name.equals("propped") || name.equals("bough");
                default: return name.equals("kings") || kindUnder(4, name);
            }
        }

        int holdsNow(int b) {
            Bough x = boughs.get(b);
            int h = x.holds;
            for (Rule r : rules) {
                if (!kindUnder(x.kind, r.kind) || !r.cond.holds(this, b)) continue;
                if (r.deed.equals("more")) h += r.n;
                if (r.deed.equals("less")) h = h < r.n ? 0 : h - r.n;
                if (r.deed.equals("cut")) h = 0;
                break;
            }
            if (x.kind == 1) return h + 10 * sap;
            if (x.kind == 2) return h / 2;
            if (x.kind == 3) return h / 2 < x.length ? 0 : h / 2 - x.length;
            if (x.kind == 4) return h + 50;
            return (h + 50) * 2;
        }

        int bears(int b) {
            int sum = wind * boughs.get(b).length;
            for (Person p : people) if (p.sits != NO && above(p.sits, b)) sum += p.weight;
            return sum;
        }

        boolean cracks(int b) {
            return !boughs.get(b).broken && bears(b) > holdsNow(b);
        }

        boolean cracksAnywhere() {
            for (int b = 0; b < boughs.size(); b++) if (cracks(b)) return true;
            return false;
        }

        int worst() {
            int found = NONE;
            for (int b = boughs.size() - 1; b >= 0; b--) {
                if (boughs.get(b).broken) continue;
                if (found == NONE || bears(b) - holdsNow(b) >= bears(found) - holdsNow(found)) found = b;
            }
            return found;
        }

        int fall() {
            int fallen = 0;
            while (cracksAnywhere()) {
                int worst = worst();
                for (int b = 0; b < boughs.size(); b++) if (above(b, worst)) boughs.get(b).broken = true;
                for (Person p : people) {
                    if (p.sits == NO || !boughs.get(p.sits).broken) continue;
                    p.sits = NO;
                    fallen++;
                }
            }
            return fallen;
        }

        int standing(int side) {
            Oak o = copy();
            o.fall();
            int sum = 0;
            for (Person p : o.people) if (p.side == side && p.sits != NO) sum += p.weight;
            return sum;
        }

        int room(int b) {
            int least = Integer.MAX_VALUE;
            for (int c = b; c != NO; c = boughs.get(c).on) least = Math.min(least, holdsNow(c) - bears(c));
            return Math.max(least, 0);
        }

        int[] seating(List<Integer> set) {
            return seating(set, 0, new int[set.size()]);
        }

        private int[] seating(List<Integer> set, int i, int[] seats) {
            if (i == set.size()) {
                Oak o = copy();
                for (int k = 0; k < seats.length; k++) o.people.get(set.get(k)).sits = seats[k];
                return o.cracksAnywhere() ? null : seats.clone();
            }
            for (int b = 0; b < boughs.size(); b++) {
                if (boughs.get(b).broken) continue;
                seats[i] = b;
                int[] found = seating(set, i + 1, seats);
                if (found != null) return found;
            }
            return null;
        }

        /** {VALUE, the first move to it}. */
        int[] game(int side, int n) {
            int who = NONE;
            for (int p = people.size() - 1; p >= 0; p--) {
                if (people.get(p).side == side && people.get(p).sits == NO) who = p;
            }
            if (n == 0 || who == NONE) return new int[] {2, NONE};
            int[] order = {side, 2, 1 - side};
            int[] first = {NONE, NONE, NONE};
            for (int b = boughs.size() - 1; b >= 0; b--) {
                if (boughs.get(b).broken) continue;
                Oak o = copy();
                o.people.get(who).sits = b;
                first[o.cracksAnywhere() ? 1 - side : o.game(1 - side, n - 1)[0]] = b;
            }
            for (int v : order) if (first[v] != NONE) return new int[] {v, first[v]};
            return new int[] {2, NONE};
        }

        boolean fits(int weight, Report r) {
            if (boughs.get(r.bough).broken) return false;
            Oak o = copy();
            Person stranger = new Person();
            stranger.weight = weight;
            stranger.sits = r.bough;
            o.people.add(stranger);
            return o.cracksAnywhere() == r.cracked;
        }

        List<Integer> fitting(int but) {
            List<Integer> all = new ArrayList<>();
            for (int w = 1; w <= 200; w++) {
                boolean fits = true;
                for (int r = 0; r < reports.size() && fits; r++) {
                    if (r != but && !fits(w, reports.get(r))) fits = false;
                }
                if (fits) all.add(w);
            }
            return all;
        }

        int draw() {
            z = z * 1103515245 + 12345;
            wind = (z >>> 16) % 10;
            return wind;
        }
    }

    // ---- the text

    static final class Fault extends RuntimeException {
        private static final long serialVersionUID = 1;
        final int place;

        Fault(int place) {
            super(null, null, false, false);
            this.place = place;
        }
    }

    /** Reads by going down the grammar, one function for each line of it. */
    static final class Reader {
        final String text;
        final List<String> words = new ArrayList<>();
        final List<Integer> places = new ArrayList<>();
        int at = 0;

        Reader(String text) {
            this.text = text;
            java.util.regex.Matcher m = java.util.regex.Pattern.compile("(?s)[a-z]+|[0-9]+|[^ ]").matcher(text);
            while (m.find()) {
                words.add(m.group());
                places.add(m.start());
            }
        }

        String next() {
            return at < words.size() ? words.get(at) : "";
        }

        Fault fault() {
            return new Fault(at < words.size() ? places.get(at) : text.length());
        }

        String take(String... ones) {
            for (String one : ones) {
                if (!next().equals(one)) continue;
                at++;
                return one;
            }
            throw fault();
        }

        int number(int most) {
            if (!next().matches("[0-9]{1,4}") || Integer.parseInt(next()) > most) throw fault();
            return Integer.parseInt(words.get(at++));
        }

        List<Rule> all() {
            List<Rule> rules = new ArrayList<>();
            while (at < words.size()) {
                if (rules.size() == 8) throw fault();
                Rule r = new Rule();
                r.kind = take(KIND_NAMES);
                if (next().equals("if")) {
                    at++;
                    r.cond = cond(0);
                }
                r.deed = take("more", "less", "cut");
                if (!r.deed.equals("cut")) r.n = number(999);
                take(";");
                rules.add(r);
            }
            return rules;
        }

        Cond cond(int open) {
            Cond left = conjunction(open);
            while (next().equals("or")) {
                at++;
                Cond one = left, two = conjunction(open);
                left = (oak, b) -> one.holds(oak, b) || two.holds(oak, b);
            }
            return left;
        }

        Cond conjunction(int open) {
            Cond left = one(open);
            while (next().equals("and")) {
                at++;
                Cond one = left, two = one(open);
                left = (oak, b) -> one.holds(oak, b) && two.holds(oak, b);
            }
            return left;
        }

        Cond one(int open) {
            if (next().equals("not")) {
                at++;
                Cond one = one(open);
                return (oak, b) -> !one.holds(oak, b);
            }
            if (next().equals("(")) {
                if (open == 3) throw fault();
                at++;
                Cond inner = cond(open + 1);
                take(")");
                return inner;
            }
            Value left = value();
            String sign = take("<", "=", ">");
            Value right = value();
            return (oak, b) -> {
                int l = left.of(oak, b), r = right.of(oak, b);
                return sign.equals("<") ? l < r : sign.equals("=") ? l == r : l > r;
            };
        }

        Value value() {
            if (next().matches("[0-9].*")) {
                int n = number(9999);
                return (oak, b) -> n;
            }
            String fact = take("sap", "wind", "long", "holds", "number");
            switch (fact) {
                case "sap": return (oak, b) -> oak.sap;
                case "wind": return (oak, b) -> oak.wind;
                case "long": return (oak, b) -> oak.boughs.get(b).length;
                case "holds": return (oak, b) -> oak.boughs.get(b).holds;
                default: return (oak, b) -> b;
            }
        }
    }

    // ---- the acts, as the classes that the document tells

    static class Thing {
        final List<Integer> trace;
        final int n, a;

        Thing(List<Integer> trace, int n, int a) {
            this.trace = trace;
            this.n = n;
            this.a = a;
        }

        int sways(int x) {
            trace.add(10);
            return x + n;
        }

        int bends(int x) {
            trace.add(11);
            return sways(x) * 2;
        }

        int shares(int x) {
            trace.add(12);
            return x / (a - n);
        }

        int tells(int x) {
            trace.add(13);
            return bends(x) ^ a;
        }
    }

    static class Green extends Thing {
        Green(List<Integer> trace, int n, int a) {
            super(trace, n, a);
        }

        @Override int sways(int x) {
            trace.add(20);
            return super.sways(x) * 3;
        }
    }

    static class Dry extends Thing {
        Dry(List<Integer> trace, int n, int a) {
            super(trace, n, a);
        }

        @Override int bends(int x) {
            trace.add(30);
            return super.bends(x) - a;
        }
    }

    static class Old extends Dry {
        Old(List<Integer> trace, int n, int a) {
            super(trace, n, a);
        }

        @Override int sways(int x) {
            trace.add(50);
            return super.sways(x) ^ n;
        }

        @Override int tells(int x) {
            trace.add(51);
            return super.tells(x) + shares(n);
        }
    }

    static class Propped extends Thing {
        Propped(List<Integer> trace, int n, int a) {
            super(trace, n, a);
        }

        @Override int shares(int x) {
            trace.add(40);
            return super.shares(x + 1);
        }
    }

    static class Kings extends Propped {
        Kings(List<Integer> trace, int n, int a) {
            super(trace, n, a);
        }

        @Override int bends(int x) {
            trace.add(60);
            return 0 - super.bends(x);
        }

        @Override int shares(int x) {
            trace.add(61);
            return super.shares(x) + sways(a);
        }
    }

    static final Class<?>[] KINDS = {Thing.class, Green.class, Dry.class, Old.class, Propped.class, Kings.class};
    static final Class<?>[] SORTS = {byte[].class, short[].class, int[].class, long[].class, boolean[].class};

    Thing thing(int b) {
        int a = oak.boughs.get(b).length;
        switch (oak.boughs.get(b).kind) {
            case 1: return new Green(trace, b, a);
            case 2: return new Dry(trace, b, a);
            case 3: return new Old(trace, b, a);
            case 4: return new Propped(trace, b, a);
            default: return new Kings(trace, b, a);
        }
    }

    // ---- the calls

    Oak oak = new Oak();
    Oak kept = null;
    String tape = "";
    List<int[]> rows = new ArrayList<>();
    final Object[] sheets = new Object[4];
    /** An Integer for a bough, or a row. */
    final Object[] shelves = new Object[4];
    List<Integer> trace = new ArrayList<>();

    int bough(int kind, int on, int length, int holds) {
        if (kind < 1 || kind > 5 || on != -1 && !oak.bough(on)) return BAD;
        if (length < 1 || length > 9 || holds < 1 || holds > 999) return BAD;
        if (oak.boughs.size() == 9) return FULL;
        if (on != -1 && oak.boughs.get(on).broken) return STATE;
        Bough b = new Bough();
        b.kind = kind;
        b.on = on == -1 ? NO : on;
        b.length = length;
        b.holds = holds;
        oak.boughs.add(b);
        return oak.boughs.size() - 1;
    }

    int boughOf(int b, int what) {
        if (!oak.bough(b) || what < 0 || what > 6) return BAD;
        Bough x = oak.boughs.get(b);
        int state = x.broken ? 2 : oak.cracks(b) ? 1 : 0;
        return new int[] {x.kind, x.on, x.length, x.holds, oak.holdsNow(b), oak.bears(b), state}[what];
    }

    int change(int b, int what, int v) {
        if (!oak.bough(b) || what != 2 && what != 3 || v < 1 || v > (what == 2 ? 9 : 999)) return BAD;
        int was = boughOf(b, what);
        if (what == 2) oak.boughs.get(b).length = v;
        else oak.boughs.get(b).holds = v;
        return was;
    }

    int graft(int b, int kind) {
        if (!oak.bough(b) || kind < 1 || kind > 5) return BAD;
        int was = oak.boughs.get(b).kind;
        oak.boughs.get(b).kind = kind;
        return was;
    }

    int weather(int what, int v) {
        if (what < 0 || what > 1 || v < 0 || v > 9) return BAD;
        int was = what == 0 ? oak.sap : oak.wind;
        if (what == 0) oak.sap = v;
        else oak.wind = v;
        return was;
    }

    int feed(long eight, int n) {
        if (n < 1 || n > 8) return BAD;
        if (tape.length() + n > 200) return FULL;
        for (int i = 0; i < n; i++) tape += (char) (eight >> 8 * i & 0xff);
        return tape.length();
    }

    int rules() {
        String text = tape;
        tape = "";
        try {
            oak.rules = new Reader(text).all();
            return oak.rules.size();
        } catch (Fault f) {
            return -100 - f.place;
        }
    }

    int person(int weight, int side) {
        if (weight < 1 || weight > 200 || side < 0 || side > 1) return BAD;
        if (oak.people.size() == 8) return FULL;
        Person p = new Person();
        p.weight = weight;
        p.side = side;
        oak.people.add(p);
        return oak.people.size() - 1;
    }

    int personOf(int p, int what) {
        if (!oak.person(p) || what < 0 || what > 2) return BAD;
        Person x = oak.people.get(p);
        return what == 0 ? x.weight : what == 1 ? x.side : x.sits;
    }

    int sit(int p, int b) {
        if (!oak.person(p) || !oak.bough(b)) return BAD;
        if (oak.boughs.get(b).broken) return STATE;
        int was = oak.people.get(p).sits;
        oak.people.get(p).sits = b;
        return was;
    }

    int down(int p) {
        if (!oak.person(p)) return BAD;
        int was = oak.people.get(p).sits;
        oak.people.get(p).sits = NO;
        return was;
    }

    int cracks() {
        int set = 0;
        for (int b = 0; b < oak.boughs.size(); b++) if (oak.cracks(b)) set += 1 << b;
        return set;
    }

    int worst() {
        return oak.worst();
    }

    int fall() {
        return oak.fall();
    }

    int would() {
        return oak.copy().fall();
    }

    int standing(int side) {
        return side == 0 || side == 1 ? oak.standing(side) : BAD;
    }

    int verdict() {
        int zero = oak.standing(0), one = oak.standing(1);
        return zero > one ? 0 : one > zero ? 1 : 2;
    }

    int room(int b) {
        if (!oak.bough(b)) return BAD;
        return oak.boughs.get(b).broken ? STATE : oak.room(b);
    }

    int best(int p) {
        if (!oak.person(p)) return BAD;
        Oak o = oak.copy();
        o.people.get(p).sits = NO;
        int found = NONE;
        for (int b = 0; b < o.boughs.size(); b++) {
            if (o.boughs.get(b).broken) continue;
            if (found == NONE || o.room(b) > o.room(found)) found = b;
        }
        return found;
    }

    int safe(int p) {
        if (!oak.person(p)) return BAD;
        int set = 0;
        for (int b = 0; b < oak.boughs.size(); b++) {
            if (oak.boughs.get(b).broken || oak.people.get(p).sits == b) continue;
            Oak o = oak.copy();
            o.people.get(p).sits = b;
            if (!o.cracksAnywhere()) set += 1 << b;
        }
        return set;
    }

    int prop() {
        int found = NONE;
        int most = oak.standing(0) + oak.standing(1);
        for (int b = 0; b < oak.boughs.size(); b++) {
            Oak o = oak.copy();
            o.boughs.get(b).kind = 4;
            int both = o.standing(0) + o.standing(1);
            if (both > most) {
                found = b;
                most = both;
            }
        }
        return found;
    }

    int windFor() {
        for (int w = 0; w <= 9; w++) {
            Oak o = oak.copy();
            o.wind = w;
            if (o.cracksAnywhere()) return w;
        }
        return NONE;
    }

    int sapFor() {
        for (int s = 0; s <= 9; s++) {
            Oak o = oak.copy();
            o.sap = s;
            if (!o.cracksAnywhere()) return s;
        }
        return NONE;
    }

    /** The members of a set, or null where it is BAD. */
    List<Integer> members(int set) {
        List<Integer> all = new ArrayList<>();
        for (int p = 0; p < 32; p++) {
            if ((set >>> p & 1) == 0) continue;
            if (!oak.person(p)) return null;
            all.add(p);
        }
        return all.size() > 4 ? null : all;
    }

    int seat(int set, int i) {
        List<Integer> all = members(set);
        if (all == null || i < 0 || i > 3) return BAD;
        int[] found = oak.seating(all);
        return found == null || i >= found.length ? NONE : found[i];
    }

    int seatAll(int set) {
        List<Integer> all = members(set);
        if (all == null) return BAD;
        int[] found = oak.seating(all);
        if (found == null) return NONE;
        for (int k = 0; k < found.length; k++) oak.people.get(all.get(k)).sits = found[k];
        return found.length;
    }

    int game(int side, int n) {
        return side < 0 || side > 1 || n < 1 || n > 4 ? BAD : oak.game(side, n)[0];
    }

    int move(int side, int n) {
        return side < 0 || side > 1 || n < 1 || n > 4 ? BAD : oak.game(side, n)[1];
    }

    int report(int b, int cracked) {
        if (!oak.bough(b) || cracked < 0 || cracked > 1) return BAD;
        if (oak.reports.size() == 6) return FULL;
        oak.reports.add(new Report(b, cracked == 1));
        return oak.reports.size() - 1;
    }

    int forget() {
        int were = oak.reports.size();
        oak.reports = new ArrayList<>();
        return were;
    }

    int span(int what) {
        if (what < 0 || what > 2) return BAD;
        List<Integer> all = oak.fitting(-1);
        if (what == 0) return all.size();
        if (all.isEmpty()) return NONE;
        return what == 1 ? all.get(0) : all.get(all.size() - 1);
    }

    int liar() {
        if (!oak.fitting(-1).isEmpty()) return NONE;
        for (int r = 0; r < oak.reports.size(); r++) if (!oak.fitting(r).isEmpty()) return r;
        return NONE;
    }

    int seed(int v) {
        int was = oak.z;
        oak.z = v;
        return was;
    }

    int draw() {
        return oak.draw();
    }

    int often(int n) {
        if (n < 1 || n > 60) return BAD;
        Oak o = oak.copy();
        int times = 0;
        for (int i = 0; i < n; i++) {
            o.draw();
            if (o.cracksAnywhere()) times++;
        }
        return times;
    }

    int prove(int b) {
        if (!oak.bough(b)) return BAD;
        rows = new ArrayList<>();
        for (int c = b; c != NO; c = oak.boughs.get(c).on) rows.add(new int[] {c, oak.bears(c), oak.holdsNow(c)});
        return rows.size();
    }

    int row(int k, int what) {
        return k < 0 || k >= rows.size() || what < 0 || what > 2 ? NO : rows.get(k)[what];
    }

    int alterRow(int k, int what, int v) {
        int was = row(k, what);
        if (k >= 0 && k < rows.size() && what >= 0 && what <= 2) rows.get(k)[what] = v;
        return was;
    }

    int judge() {
        for (int k = 0; k < rows.size(); k++) {
            int[] r = rows.get(k);
            if (!oak.bough(r[0])) return k + 1;
            if (k > 0 && oak.boughs.get(rows.get(k - 1)[0]).on != r[0]) return k + 1;
            if (r[1] != oak.bears(r[0]) || r[2] != oak.holdsNow(r[0])) return k + 1;
            if (k == rows.size() - 1 && oak.boughs.get(r[0]).on != NO) return k + 1;
        }
        return 0;
    }

    int sheet(int sheet, int sort, int n) {
        if (sheet < 0 || sheet > 3 || sort < -1 || sort > 4) return BAD;
        if (sort == -1) {
            sheets[sheet] = null;
            return 1;
        }
        if (n > 40) return BAD;
        try {
            sheets[sheet] = java.lang.reflect.Array.newInstance(SORTS[sort].getComponentType(), n);
            return 1;
        } catch (NegativeArraySizeException e) {
            return -14;
        }
    }

    int write(int sheet, int i, int v) {
        if (sheet < 0 || sheet > 3) return BAD;
        Object s = sheets[sheet];
        try {
            if (s instanceof byte[]) ((byte[]) s)[i] = (byte) v;
            else if (s instanceof short[]) ((short[]) s)[i] = (short) v;
            else if (s instanceof long[]) ((long[]) s)[i] = v;
            else if (s instanceof boolean[]) ((boolean[]) s)[i] = v != 0;
            else ((int[]) s)[i] = v;
            return 1;
        } catch (NullPointerException e) {
            return -11;
        } catch (ArrayIndexOutOfBoundsException e) {
            return -12;
        }
    }

    int item(int sheet, int sort, int i) {
        if (sheet < 0 || sheet > 3 || sort < 0 || sort > 4) return BAD;
        Object s = sheets[sheet];
        try {
            if (sort == 0) return ((byte[]) s)[i];
            if (sort == 1) return ((short[]) s)[i];
            if (sort == 2) return ((int[]) s)[i];
            if (sort == 3) return (int) ((long[]) s)[i];
            return ((boolean[]) s)[i] ? 1 : 0;
        } catch (ClassCastException e) {
            return -13;
        } catch (NullPointerException e) {
            return -11;
        } catch (ArrayIndexOutOfBoundsException e) {
            return -12;
        }
    }

    int climbs(int p, int sheet, int i, int n) {
        if (!oak.person(p) || sheet < 0 || sheet > 3 || n < 0 || n > 20) return BAD;
        try {
            byte[] s = (byte[]) sheets[sheet];
            if (s == null) return -11;
            int times = 0;
            for (int k = 0; k < n; k++) {
                int was = sit(p, s[i + k]);
                if (was >= 0 || was == NO) times++;
            }
            return times;
        } catch (ClassCastException e) {
            return -13;
        } catch (ArrayIndexOutOfBoundsException e) {
            return -12;
        }
    }

    int shelf(int shelf, int what, int n) {
        if (shelf < 0 || shelf > 3 || what < 0 || what > 2) return BAD;
        if (what == 0 && !oak.bough(n) || what == 1 && (n < 0 || n > 3)) return BAD;
        shelves[shelf] = what == 0 ? (Object) n : what == 1 ? sheets[n] : null;
        return 1;
    }

    int taken(int shelf, int as) {
        if (shelf < 0 || shelf > 3 || as < 0 || as > 14 || as > 5 && as < 10) return BAD;
        Object held = shelves[shelf];
        if (held instanceof Integer) held = oak.bough((Integer) held) ? thing((Integer) held) : null;
        try {
            if (as < 6) return ((Thing) KINDS[as].cast(held)).n;
            return java.lang.reflect.Array.getLength(SORTS[as - 10].cast(held));
        } catch (ClassCastException e) {
            return -13;
        } catch (NullPointerException e) {
            return -11;
        }
    }

    int act(int shelf, int act, int x) {
        trace = new ArrayList<>();
        if (shelf < 0 || shelf > 3 || act < 0 || act > 3) return 0;
        if (!(shelves[shelf] instanceof Integer) || !oak.bough((Integer) shelves[shelf])) return 0;
        Thing t = thing((Integer) shelves[shelf]);
        try {
            return act == 0 ? t.sways(x) : act == 1 ? t.bends(x) : act == 2 ? t.shares(x) : t.tells(x);
        } catch (ArithmeticException e) {
            return -15;
        }
    }

    int trace(int i) {
        return i < 0 || i >= many(6) ? NONE : trace.get(i);
    }

    int many(int what) {
        if (what < 0 || what > 6) return BAD;
        return new int[] {oak.boughs.size(), oak.rules.size(), oak.people.size(), oak.reports.size(),
            rows.size(), tape.length(), Math.min(trace.size(), 30)}[what];
    }

    int keep() {
        kept = oak.copy();
        return 1;
    }

    int again() {
        if (kept == null) return NONE;
        oak = kept.copy();
        return oak.boughs.size();
    }
}

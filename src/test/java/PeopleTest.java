/** Promises 9 to 12: people, and where they sit. */
public final class PeopleTest {
    public static void main(String[] args) {
        person();
        sit();
        down();
        Due.end("PeopleTest");
    }

    private static void person() {
        OakCourt x = Due.tower();
        for (int p = 0; p < 8; p++) Due.is("9 person", x.person(p == 0 ? 1 : 25 * p + 25, p % 2), p);
        Due.is("9 FULL", x.person(1, 0), Due.FULL);
        Due.is("9 BAD ahead of FULL", x.person(0, 0), Due.BAD);
        for (int p = 0; p < 8; p++) {
            Due.is("10 WEIGHT", x.personOf(p, 0), p == 0 ? 1 : 25 * p + 25);
            Due.is("10 SIDE", x.personOf(p, 1), p % 2);
            Due.is("10 SITS", x.personOf(p, 2), Due.NO);
        }
        Due.is("10 BAD", x.personOf(8, 0), Due.BAD);
        OakCourt y = Due.tower();
        String was = Due.state(y);
        int[][] bad = {{0, 0}, {201, 0}, {-1, 0}, {1, -1}, {1, 2}};
        for (int[] c : bad) Due.is("9 BAD", y.person(c[0], c[1]), Due.BAD);
        for (int v : Due.OUTSIDE_INTS) {
            Due.is("9 BAD", y.person(v, 0), Due.BAD);
            Due.is("9 BAD", y.person(1, v), Due.BAD);
            Due.is("10 BAD", x.personOf(v, 0), Due.BAD);
            Due.is("10 BAD", x.personOf(0, v), Due.BAD);
        }
        Due.same("person's refusals", was, Due.state(y));
        Due.is("9 the greatest", y.person(200, 1), 0);
        Due.is("10 BAD", y.personOf(1, 0), Due.BAD);
        Due.is("10 BAD", y.personOf(-1, 0), Due.BAD);
        Due.is("10 BAD", y.personOf(0, 3), Due.BAD);
        Due.is("10 BAD", y.personOf(0, -1), Due.BAD);
    }

    private static void sit() {
        OakCourt x = Due.tower();
        x.person(120, 0);
        x.person(10, 1);
        Due.is("11 first", x.sit(0, 1), Due.NO);
        Due.is("11 then", x.sit(0, 2), 1);
        Due.is("11 the same", x.sit(0, 2), 2);
        Due.is("11 two on one", x.sit(1, 2), Due.NO);
        Due.is("10 SITS", x.personOf(0, 2), 2);
        Due.is("11 nothing breaks by it", x.boughOf(2, 6), 1);
        String was = Due.state(x);
        int[][] bad = {{-1, 0}, {2, 0}, {0, -1}, {0, 4}, {0, -9}};
        for (int[] c : bad) Due.is("11 BAD", x.sit(c[0], c[1]), Due.BAD);
        for (int v : Due.OUTSIDE_INTS) {
            Due.is("11 BAD", x.sit(v, 0), Due.BAD);
            Due.is("11 BAD", x.sit(0, v), Due.BAD);
        }
        Due.same("sit's refusals", was, Due.state(x));
        Due.is("15 fall", x.fall(), 2);
        Due.is("11 STATE", x.sit(0, 2), Due.STATE);
        Due.is("11 BAD ahead of STATE", x.sit(2, 2), Due.BAD);
        Due.is("11 sits nowhere still", x.personOf(0, 2), Due.NO);
        Due.is("11 another bough", x.sit(0, 1), Due.NO);
    }

    private static void down() {
        OakCourt x = Due.tower();
        x.person(120, 0);
        Due.is("12 nowhere", x.down(0), Due.NO);
        x.sit(0, 0);
        Due.is("12 from 0", x.down(0), 0);
        Due.is("12 then nowhere", x.personOf(0, 2), Due.NO);
        Due.is("12 bears nothing", x.boughOf(0, 5), 0);
        Due.is("12 BAD", x.down(1), Due.BAD);
        Due.is("12 BAD", x.down(-1), Due.BAD);
        for (int v : Due.OUTSIDE_INTS) Due.is("12 BAD", x.down(v), Due.BAD);
    }
}

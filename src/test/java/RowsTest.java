/** Promises 36 to 39: ROWS down to the trunk, and THE READER. */
public final class RowsTest {
    public static void main(String[] args) {
        prove();
        rows();
        judge();
        rightButAnother();
        outside();
        Due.end("RowsTest");
    }

    private static OakCourt seated() {
        OakCourt x = Due.tower();
        x.person(20, 0);
        x.person(30, 1);
        x.sit(0, 2);
        x.sit(1, 1);
        return x;
    }

    private static void prove() {
        OakCourt x = seated();
        Due.is("36 of 2", x.prove(2), 3);
        int[][] due = {{2, 20, 100}, {1, 50, 200}, {0, 50, 300}};
        for (int k = 0; k < 3; k++) {
            for (int what = 0; what < 3; what++) Due.is("37 " + k + " " + what, x.row(k, what), due[k][what]);
        }
        for (int v : Due.OUTSIDE_INTS) Due.is("36 BAD", x.prove(v), Due.BAD);
        Due.is("36 BAD", x.prove(4), Due.BAD);
        Due.is("36 BAD", x.prove(-1), Due.BAD);
        Due.is("36 ROWS stay", x.many(4), 3);
        Due.is("36 of 3", x.prove(3), 1);
        Due.is("37 in place of all", x.row(1, 0), Due.NO);
        x.change(3, 3, 1);
        x.weather(1, 3);
        Due.is("37 as they were", x.row(0, 2), 50);
        x.fall();
        Due.is("36 a BROKEN one", x.prove(3), 1);
        Due.is("37 bears WIND", x.row(0, 1), 3);
        Due.is("39 right", x.judge(), 0);
        OakCourt y = new OakCourt();
        for (int b = 0; b < 9; b++) y.bough(1, b - 1, 1, 9);
        Due.is("36 nine", y.prove(8), 9);
        Due.is("37 the ninth", y.row(8, 0), 0);
        Due.is("39 right", y.judge(), 0);
    }

    private static void rows() {
        OakCourt x = seated();
        Due.is("37 none", x.row(0, 0), Due.NO);
        Due.is("38 none", x.alterRow(0, 0, 1), Due.NO);
        x.prove(1);
        int[][] none = {{2, 0}, {-1, 0}, {0, 3}, {0, -1}, {9, 9}};
        for (int[] c : none) {
            Due.is("37 -9", x.row(c[0], c[1]), Due.NO);
            Due.is("38 -9", x.alterRow(c[0], c[1], 5), Due.NO);
        }
        for (int v : Due.OUTSIDE_INTS) {
            Due.is("37 -9", x.row(v, 0), Due.NO);
            Due.is("37 -9", x.row(0, v), Due.NO);
            Due.is("38 -9", x.alterRow(v, 0, 5), Due.NO);
            Due.is("38 -9", x.alterRow(0, v, 5), Due.NO);
            Due.is("38 any number", x.alterRow(1, 2, v), 300);
            Due.is("38 what it was", x.alterRow(1, 2, 300), v);
        }
        Due.is("39 right again", x.judge(), 0);
    }

    private static void altered(OakCourt x, int k, int what, int v, int due) {
        int was = x.alterRow(k, what, v);
        Due.is("39 row " + k + " " + what + " of " + v, x.judge(), due);
        x.alterRow(k, what, was);
        Due.is("39 right again", x.judge(), 0);
    }

    private static void judge() {
        OakCourt x = seated();
        Due.is("39 no ROWS", x.judge(), 0);
        x.prove(2);
        Due.is("39 right", x.judge(), 0);
        for (int k = 0; k < 3; k++) {
            altered(x, k, 1, 21, k + 1);
            altered(x, k, 2, 0, k + 1);
            altered(x, k, 0, 3, k + 1);
            altered(x, k, 0, 4, k + 1);
            for (int v : Due.OUTSIDE_INTS) {
                for (int what = 0; what < 3; what++) altered(x, k, what, v, k + 1);
            }
            altered(x, k, 0, -1, k + 1);
            altered(x, k, 0, -9, k + 1);
        }
        x.alterRow(2, 1, 7);
        x.alterRow(1, 2, 7);
        Due.is("39 the first that isn't", x.judge(), 2);
    }

    private static void set(OakCourt x, int k, int b, int bears, int holds) {
        x.alterRow(k, 0, b);
        x.alterRow(k, 1, bears);
        x.alterRow(k, 2, holds);
    }

    /** The first row may tell any bough; the last must grow on the trunk. */
    private static void rightButAnother() {
        OakCourt x = seated();
        x.prove(3);
        set(x, 0, 0, 50, 300);
        Due.is("39 any bough first", x.judge(), 0);
        set(x, 0, 1, 50, 200);
        Due.is("39 1 doesn't grow on the trunk", x.judge(), 1);
        x.prove(1);
        set(x, 0, 2, 20, 100);
        set(x, 1, 1, 50, 200);
        Due.is("39 the last isn't right", x.judge(), 2);
        set(x, 1, 0, 50, 300);
        Due.is("39 one is left out", x.judge(), 2);
        set(x, 0, 0, 50, 300);
        Due.is("39 nothing is below the trunk", x.judge(), 2);
        set(x, 1, -9, 0, 0);
        Due.is("39 the trunk is no bough", x.judge(), 2);
        set(x, 1, -1, 0, 0);
        Due.is("39 the trunk is no bough", x.judge(), 2);
    }

    private static void outside() {
        OakCourt x = seated();
        x.prove(2);
        x.sit(1, 2);
        Due.is("39 by what is now", x.judge(), 1);
        x.sit(1, 1);
        Due.is("39 right again", x.judge(), 0);
        x.weather(0, 1);
        Due.is("39 by HOLDS NOW", x.judge(), 1);
        x.weather(0, 0);
        x.keep();
        x.bough(1, 2, 1, 1);
        x.prove(4);
        Due.is("39 right", x.judge(), 0);
        x.again();
        Due.is("48 ROWS stay", x.many(4), 4);
        Due.is("39 no such bough any more", x.judge(), 1);
    }
}

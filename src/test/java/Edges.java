import java.io.IOException;
import java.nio.file.Files;
import java.nio.file.Path;
import java.util.function.Supplier;
import java.util.function.ToIntFunction;

/**
 * What the tests of the document's edges have in common. Each goes sentence by sentence: the sentence
 * itself stands ahead of what is asked, and has to stand in the document as well.
 */
final class Edges {
    static final int MIN = Integer.MIN_VALUE, MAX = Integer.MAX_VALUE;
    /** Numbers that no call takes for a thing, a sort or how many. */
    static final int[] OUTSIDE = {MIN, -1000, -10, 1000, 65536, MAX};
    private static String document = "";
    private static String sentence = "";
    private static boolean asked = true;
    private static int sentences = 0;

    private Edges() {
    }

    /** Reads the document from beside a project's directory; without it the sentences are not looked for. */
    static void begin(String[] args) throws IOException {
        Path path = Path.of(args.length > 0 ? args[0] : ".", "../shared/DOC.md");
        if (Files.exists(path)) document = Files.readString(path).replace("`", "").replaceAll("\\s+", " ");
    }

    static void end(String name) {
        says("");
        Due.end(name + ", " + (sentences - 1) + " sentences");
    }

    /** What is asked from here on is due by this sentence. */
    static void says(String words) {
        Due.is("something is asked of \"" + sentence + "\"", asked ? 1 : 0, 1);
        sentence = words;
        asked = false;
        sentences++;
        Due.is("the document says \"" + words + "\"", document.isEmpty() || document.contains(words) ? 1 : 0, 1);
    }

    static void is(String call, long got, long want) {
        asked = true;
        Due.is("\"" + sentence + "\": " + call, got, want);
    }

    /** A call on an oak as rich() answers so, and nothing that any call shows is another than without it. */
    static void leaves(String call, ToIntFunction<OakCourt> asks, int want) {
        leaves(call, Edges::rich, asks, want);
    }

    static void leaves(String call, Supplier<OakCourt> made, ToIntFunction<OakCourt> asks, int want) {
        OakCourt x = made.get();
        is(call, asks.applyAsInt(x), want);
        String due = all(made.get());
        is(call + " changes nothing", all(x).equals(due) ? 0 : 1, 0);
    }

    // ---- oaks

    /** Nine boughs on the trunk, 1 long, of a kind, that hold as told: none above another. */
    static OakCourt nine(int kind, int holds) {
        OakCourt x = new OakCourt();
        for (int b = 0; b < 9; b++) x.bough(kind, -1, 1, holds);
        return x;
    }

    /** Green boughs, 1 long, each on the one ahead of it. */
    static OakCourt chain(int many, int holds) {
        OakCourt x = new OakCourt();
        for (int b = 0; b < many; b++) x.bough(1, b - 1, 1, holds);
        return x;
    }

    /** One green bough, 1 long, and people of side 0, 1, 0 .. with these weights. */
    static OakCourt one(int holds, int... weights) {
        OakCourt x = chain(1, holds);
        for (int p = 0; p < weights.length; p++) x.person(weights[p], p % 2);
        return x;
    }

    /** Some of everything, and nothing full: bough 2 is broken, sheet 3 missing, shelf 3 empty. */
    static OakCourt rich() {
        OakCourt x = new OakCourt();
        int[][] boughs = {{1, -1, 3, 400}, {2, 0, 5, 300}, {3, 1, 4, 160}, {4, 0, 2, 80}, {5, -1, 6, 40}};
        for (int[] b : boughs) x.bough(b[0], b[1], b[2], b[3]);
        int[] weights = {100, 60, 90, 150, 10};
        for (int p = 0; p < weights.length; p++) x.person(weights[p], p % 2);
        x.sit(4, 4);
        x.report(4, 0);
        Due.told(x, "kings less 3;");
        x.keep();
        x.sit(0, 2);
        x.fall();
        x.sit(0, 1);
        x.sit(1, 3);
        x.weather(0, 4);
        x.weather(1, 2);
        x.report(1, 1);
        x.report(0, 0);
        x.seed(77);
        Due.told(x, "green if wind > 1 more 5; dry less 4;");
        x.prove(3);
        x.alterRow(1, 1, 55);
        setSheets(x);
        x.act(0, 3, 5);
        Due.feed(x, "old cu");
        return x;
    }

    private static void setSheets(OakCourt x) {
        x.sheet(0, 0, 4);
        int[] items = {4, -1, 3, 1};
        for (int i = 0; i < items.length; i++) x.write(0, i, items[i]);
        x.sheet(1, 2, 3);
        x.write(1, 2, 7);
        x.sheet(2, 4, 2);
        x.shelf(0, 0, 1);
        x.shelf(1, 1, 1);
        x.shelf(2, 0, 4);
    }

    /** As rich(), with nine boughs, eight people, six reports and 200 bytes, and bough 2 broken as well. */
    static OakCourt full() {
        OakCourt x = rich();
        for (int b = 5; b < 9; b++) x.bough(1, -1, 1, 500);
        for (int p = 5; p < 8; p++) x.person(1, 0);
        for (int r = 3; r < 6; r++) x.report(4, 0);
        Due.feed(x, " ".repeat(194));
        return x;
    }

    // ---- all that a call could have changed

    /** THE TAPE's bytes and what is kept can be seen only by using them up, so this comes last. */
    static String all(OakCourt x) {
        StringBuilder s = new StringBuilder(oak(x)).append(host(x));
        s.append(x.feed('t' | ';' << 8, 2)).append(' ').append(x.rules()).append(' ');
        for (int b = 0; b < 9; b++) s.append(x.boughOf(b, 4)).append(' ');
        return s.append(x.again()).append(' ').append(oak(x)).toString();
    }

    /** Boughs, weather, rules, people, reports, z. */
    static String oak(OakCourt x) {
        StringBuilder s = new StringBuilder(Due.state(x));
        for (int what = 0; what < 3; what++) s.append(' ').append(x.span(what));
        return s.append(' ').append(x.liar()).append('\n').toString();
    }

    /** ROWS, SHEETS, SHELVES, THE TRACE. */
    static String host(OakCourt x) {
        StringBuilder s = new StringBuilder();
        for (int k = 0; k < x.many(4); k++) {
            for (int what = 0; what < 3; what++) s.append(x.row(k, what)).append(' ');
        }
        for (int sheet = 0; sheet < 4; sheet++) {
            for (int sort = 0; sort < 5; sort++) {
                int first = x.item(sheet, sort, 0);
                s.append(first).append(' ');
                for (int i = 1; i < 5 && first > -11; i++) s.append(x.item(sheet, sort, i)).append(' ');
            }
            for (int as = 0; as < 15; as++) s.append(x.taken(sheet, as)).append(' ');
        }
        for (int i = 0; i < x.many(6); i++) s.append(x.trace(i)).append(' ');
        return s.append('\n').toString();
    }
}

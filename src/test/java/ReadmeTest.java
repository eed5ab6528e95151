import java.io.IOException;
import java.lang.reflect.Method;
import java.lang.reflect.Modifier;
import java.nio.file.Files;
import java.nio.file.Path;
import java.util.ArrayList;
import java.util.List;
import java.util.regex.Matcher;
import java.util.regex.Pattern;
import java.util.stream.Stream;

/** README.md tells the truth: what its lines answer, what calls and tests there are, what LANGUAGE.md asks of objects made. */
public final class ReadmeTest {
    private static final Pattern ANSWER = Pattern.compile("(\\S.*;)\\s+// (-?\\d+): .*");
    private static final OakCourt court = new OakCourt();
    /** Lines of README.md that tell an answer, in their order: {the line's code, the answer}. */
    private static final List<String[]> told = new ArrayList<>();
    private static int asked = 0;

    private static void readLines(String readme) {
        boolean code = false;
        for (String line : readme.split("\n")) {
            if (line.startsWith("```")) code = line.equals("```java");
            Matcher m = ANSWER.matcher(line);
            if (code && m.matches()) told.add(new String[] {m.group(1), m.group(2)});
        }
    }

    /** The next line of README.md is this code, and tells what it answered. */
    private static void line(String code, int got) {
        String[] next = asked < told.size() ? told.get(asked) : new String[] {"nothing", "0"};
        asked++;
        Due.is("line " + asked + " of README.md is \"" + next[0] + "\", not \"" + code + "\": this", next[0].equals(code) ? 1 : 0, 1);
        Due.is(code, got, Integer.parseInt(next[1]));
    }

    private static int tell(OakCourt x, String text) {
        Due.feed(x, text);
        return x.rules();
    }

    private static void oakAndRules() {
        line("court.bough(1, -1, 3, 200);", court.bough(1, -1, 3, 200));
        line("court.bough(2, 0, 5, 300);", court.bough(2, 0, 5, 300));
        line("court.boughOf(1, 4);", court.boughOf(1, 4));
        line("court.person(100, 0);", court.person(100, 0));
        line("court.person(120, 1);", court.person(120, 1));
        line("court.sit(0, 1);", court.sit(0, 1));
        line("court.weather(1, 9);", court.weather(1, 9));
        line("court.boughOf(1, 5);", court.boughOf(1, 5));
        line("court.keep();", court.keep());
        line("tell(court, \"dry if wind > 4 less 60; green more 9;\");", tell(court, "dry if wind > 4 less 60; green more 9;"));
        line("tell(court, \"dry if wind 4\");", tell(court, "dry if wind 4"));
        line("court.boughOf(1, 4);", court.boughOf(1, 4));
    }

    private static void cracksAndSeating() {
        line("court.cracks();", court.cracks());
        line("court.windFor();", court.windFor());
        line("court.would();", court.would());
        line("court.standing(0);", court.standing(0));
        line("court.prop();", court.prop());
        line("court.safe(1);", court.safe(1));
        line("court.fall();", court.fall());
        line("court.boughOf(1, 6);", court.boughOf(1, 6));
        line("court.sit(0, 1);", court.sit(0, 1));
        line("court.best(0);", court.best(0));
        line("court.room(0);", court.room(0));
        line("court.seat(3, 0);", court.seat(3, 0));
        line("court.game(1, 2);", court.game(1, 2));
        line("court.move(1, 2);", court.move(1, 2));
    }

    private static void strangersAndRows() {
        line("court.again();", court.again());
        line("court.report(1, 1);", court.report(1, 1));
        line("court.report(0, 0);", court.report(0, 0));
        line("court.span(1);", court.span(1));
        line("court.span(2);", court.span(2));
        line("court.report(1, 0);", court.report(1, 0));
        line("court.liar();", court.liar());
        line("court.seed(7);", court.seed(7));
        line("court.draw();", court.draw());
        line("court.prove(1);", court.prove(1));
        line("court.row(0, 1);", court.row(0, 1));
        line("court.alterRow(1, 2, 7);", court.alterRow(1, 2, 7));
        line("court.judge();", court.judge());
    }

    private static void host() {
        line("court.sheet(0, 0, 3);", court.sheet(0, 0, 3));
        line("court.write(0, 0, 300);", court.write(0, 0, 300));
        line("court.item(0, 0, 0);", court.item(0, 0, 0));
        line("court.item(0, 2, 0);", court.item(0, 2, 0));
        line("court.climbs(1, 0, 0, 3);", court.climbs(1, 0, 0, 3));
        line("court.shelf(0, 0, 1);", court.shelf(0, 0, 1));
        line("court.taken(0, 2);", court.taken(0, 2));
        line("court.act(0, 1, 8);", court.act(0, 1, 8));
        line("court.trace(0);", court.trace(0));
        line("court.many(6);", court.many(6));
    }

    private static void named(String readme, String name) {
        Due.is("README.md names " + name, readme.contains("`" + name + "`") ? 1 : 0, 1);
    }

    private static void namesAll(String root, String readme) throws IOException {
        for (Method m : OakCourt.class.getDeclaredMethods()) {
            if (Modifier.isPublic(m.getModifiers())) named(readme, m.getName());
        }
        try (Stream<Path> files = Files.list(Path.of(root, "src/test/java"))) {
            files.map(f -> f.getFileName().toString()).filter(f -> f.endsWith("Test.java"))
                .forEach(f -> named(readme, f.substring(0, f.length() - 5)));
        }
    }

    /** "No call makes an object": in the class, new stands behind the = of a final field alone. */
    private static void makesInFieldsAlone(String root) throws IOException {
        int made = 0;
        for (String line : Files.readAllLines(Path.of(root, "src/main/java/OakCourt.java"))) {
            String code = line.replaceAll("//.*|^\\s*/?\\*.*", "");
            if (!code.matches(".*\\bnew\\b.*")) continue;
            made++;
            Due.is("made by a final field: " + code, code.matches(" +(private )?final [\\w\\[\\]]+ \\w+ = new [^;]*;") ? 1 : 0, 1);
        }
        Due.is("something is made", made > 0 ? 1 : 0, 1);
    }

    public static void main(String[] args) throws IOException {
        String root = args.length > 0 ? args[0] : ".";
        String readme = Files.readString(Path.of(root, "README.md"));
        readLines(readme);
        oakAndRules();
        cracksAndSeating();
        strangersAndRows();
        host();
        Due.is("lines of README.md that tell an answer", told.size(), asked);
        namesAll(root, readme);
        makesInFieldsAlone(root);
        Due.end("ReadmeTest");
    }
}

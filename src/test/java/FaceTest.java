import java.lang.reflect.Constructor;
import java.lang.reflect.Field;
import java.lang.reflect.Method;
import java.lang.reflect.Modifier;
import java.nio.file.Files;
import java.nio.file.Path;
import java.util.ArrayList;
import java.util.Arrays;
import java.util.List;
import java.util.TreeSet;

/** The public face is the document's, and nothing else of the class can be seen. */
public final class FaceTest {
    private static final String[] FACE = {
        "int act(int,int,int)", "int again()", "int alterRow(int,int,int)", "int best(int)",
        "int bough(int,int,int,int)", "int boughOf(int,int)", "int change(int,int,int)",
        "int climbs(int,int,int,int)", "int cracks()", "int down(int)", "int draw()",
        "int fall()", "int feed(long,int)", "int forget()", "int game(int,int)",
        "int graft(int,int)", "int item(int,int,int)", "int judge()", "int keep()", "int liar()",
        "int many(int)", "int move(int,int)", "int often(int)", "int person(int,int)",
        "int personOf(int,int)", "int prop()", "int prove(int)", "int report(int,int)",
        "int room(int)", "int row(int,int)", "int rules()", "int safe(int)", "int sapFor()",
        "int seat(int,int)", "int seatAll(int)", "int seed(int)", "int sheet(int,int,int)",
        "int shelf(int,int,int)", "int sit(int,int)", "int span(int)", "int standing(int)",
        "int taken(int,int)", "int trace(int)", "int verdict()", "int weather(int,int)",
        "int windFor()", "int worst()", "int would()", "int write(int,int,int)"
    };
    private static int wrong = 0;

    private static void check(String what, boolean right) {
        if (right) return;
        wrong++;
        System.out.println("not as due: " + what);
    }

    private static void checkMethods() {
        TreeSet<String> due = new TreeSet<>(Arrays.asList(FACE));
        TreeSet<String> names = new TreeSet<>();
        TreeSet<String> seen = new TreeSet<>();
        List<String> hidden = new ArrayList<>();
        for (Method m : OakCourt.class.getDeclaredMethods()) {
            StringBuilder told = new StringBuilder("int " + m.getName() + "(");
            for (int i = 0; i < m.getParameterCount(); i++) {
                told.append(i == 0 ? "" : ",").append(m.getParameterTypes()[i].getName());
            }
            if (Modifier.isPrivate(m.getModifiers())) {
                hidden.add(m.getName());
                continue;
            }
            check(m + " is public, not static, of int", Modifier.isPublic(m.getModifiers())
                && !Modifier.isStatic(m.getModifiers()) && m.getReturnType() == int.class);
            names.add(m.getName());
            seen.add(told.append(")").toString());
        }
        check("methods " + seen, seen.equals(due));
        for (String name : hidden) check("private " + name + " bears a public name", !names.contains(name));
    }

    private static void checkFields() throws Exception {
        String[] constants = {"BAD", "FULL", "NONE", "STATE"};
        for (int i = 0; i < constants.length; i++) {
            Field f = OakCourt.class.getField(constants[i]);
            check(constants[i], f.getType() == int.class && Modifier.isStatic(f.getModifiers())
                && Modifier.isFinal(f.getModifiers()) && f.getInt(null) == -1 - i);
        }
        for (Field f : OakCourt.class.getDeclaredFields()) {
            boolean told = Arrays.asList(constants).contains(f.getName());
            check(f + " can be seen", told || Modifier.isPrivate(f.getModifiers()));
            check(f + " is static and not final",
                !Modifier.isStatic(f.getModifiers()) || Modifier.isFinal(f.getModifiers()));
        }
    }

    private static void checkClasses() {
        check("public final", Modifier.isPublic(OakCourt.class.getModifiers())
            && Modifier.isFinal(OakCourt.class.getModifiers()));
        Constructor<?>[] made = OakCourt.class.getConstructors();
        check("one constructor of nothing", made.length == 1 && made[0].getParameterCount() == 0
            && OakCourt.class.getDeclaredConstructors().length == 1);
        Class<?>[] inside = OakCourt.class.getDeclaredClasses();
        check("some twelve classes in all", inside.length <= 11);
        for (Class<?> c : inside) {
            check(c + " is static and not public",
                Modifier.isStatic(c.getModifiers()) && !Modifier.isPublic(c.getModifiers()));
            int fields = 0;
            for (Field f : c.getDeclaredFields()) if (!Modifier.isStatic(f.getModifiers())) fields++;
            check(c + " has some twenty fields", fields <= 20);
            for (Method m : c.getDeclaredMethods()) {
                check(m + " takes at most seven", m.getParameterCount() <= 7);
                check(m + " bears a public name", !Arrays.toString(FACE).contains("int " + m.getName() + "("));
            }
        }
    }

    /** Words that LANGUAGE.md leaves out, looked for in the source without its comments. */
    private static void checkSource(String root) throws Exception {
        String text = Files.readString(Path.of(root, "src/main/java/OakCourt.java"));
        for (int i = 0; i < text.length(); i++) check("sign at " + i, text.charAt(i) < 128);
        String code = text.replaceAll("(?s)/\\*.*?\\*/", " ").replaceAll("//[^\n]*", " ");
        String[] never = {"throw", "try", "catch", "finally", "synchronized", "assert", "import",
            "package", "instanceof", "Object", "equals", "hashCode", "toString", "Exact", "System\\.exit",
            "Random", "Thread", "nanoTime", "currentTimeMillis", "getenv", "double", "float"};
        for (String word : never) {
            check("the source says " + word, !java.util.regex.Pattern.compile("\\b" + word + "\\b").matcher(code).find());
        }
        check("no lambda, no arrow", !code.contains("->") && !code.contains("::"));
        String[] lines = code.split("\n");
        int from = 0;
        for (int i = 0; i < lines.length; i++) {
            if (lines[i].matches("( {4}| {8})[A-Za-z].*\\) \\{")) from = i;
            if (lines[i].matches("( {4}| {8})\\}")) check("sixty lines from " + from, i - from <= 60 || lines[i].startsWith("    }"));
        }
    }

    public static void main(String[] args) throws Exception {
        checkMethods();
        checkFields();
        checkClasses();
        checkSource(args.length > 0 ? args[0] : ".");
        System.out.println(wrong == 0 ? "the face is as due" : wrong + " things are not as due");
        if (wrong != 0) System.exit(1);
    }
}

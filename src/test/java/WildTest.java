import java.lang.reflect.Method;
import java.util.ArrayList;
import java.util.Arrays;
import java.util.Comparator;
import java.util.List;
import java.util.Random;

/**
 * Every call with any arguments in any state answers, and does so without an exception. What is only
 * asked changes nothing, and the same calls answer the same.
 */
public final class WildTest {
    private static final int RUNS = 300;
    private static final List<String> ONLY_ASKS = Arrays.asList("boughOf", "personOf", "cracks", "worst", "would",
        "standing", "verdict", "room", "best", "safe", "prop", "windFor", "sapFor", "seat", "game", "move", "span",
        "liar", "often", "row", "judge", "item", "taken", "trace", "many", "keep");
    private static final int[] EDGES = {Integer.MIN_VALUE, Integer.MIN_VALUE + 1, -1000, -32, -16, -9, -2, -1, 0, 1, 2, 3, 4, 5, 6,
        7, 8, 9, 10, 11, 14, 15, 20, 21, 30, 31, 32, 40, 41, 60, 61, 200, 201, 255, 511, 512, 999, 1000, 65536, Integer.MAX_VALUE};

    private final Random random;
    private final OakCourt x = new OakCourt();
    private final OakCourt twin = new OakCourt();

    private WildTest(long seed) {
        random = new Random(seed);
    }

    private Object any(Class<?> type) {
        if (type == long.class) return random.nextInt(4) == 0 ? random.nextLong() : word();
        switch (random.nextInt(4)) {
            case 0: return EDGES[random.nextInt(EDGES.length)];
            case 1: return random.nextInt(200);
            default: return random.nextInt(10);
        }
    }

    private long word() {
        String words = "bough  green   dry     old     propped kings   more 5; less 5; cut;    if      not     and     "
            + "or      sap <   wind >  long =  holds < number =(       )       1=1     sap=0   ;       2       ";
        int at = random.nextInt(words.length() / 8) * 8;
        long eight = 0;
        for (int i = 7; i >= 0; i--) eight = eight << 8 | words.charAt(at + i);
        return eight;
    }

    private Object[] argumentsOf(Method m) {
        Object[] args = new Object[m.getParameterCount()];
        for (int i = 0; i < args.length; i++) args[i] = any(m.getParameterTypes()[i]);
        return args;
    }

    private void call(Method m) throws Exception {
        Object[] args = argumentsOf(m);
        String name = m.getName() + Arrays.toString(args);
        boolean asks = ONLY_ASKS.contains(m.getName());
        String was = asks ? Due.state(x) : "";
        int answer = (int) m.invoke(x, args);
        Due.is("the twin's " + name, (int) m.invoke(twin, args), answer);
        if (asks) Due.same(name, was, Due.state(x));
    }

    private void run(List<Method> methods, int calls) throws Exception {
        for (int i = 0; i < 4; i++) {
            for (OakCourt c : new OakCourt[] {x, twin}) {
                c.bough(1 + i, i - 1, 3, 200);
                c.person(60 + 10 * i, i % 2);
            }
        }
        for (int i = 0; i < calls; i++) call(methods.get(random.nextInt(methods.size())));
    }

    public static void main(String[] args) throws Exception {
        List<Method> methods = new ArrayList<>(Arrays.asList(OakCourt.class.getDeclaredMethods()));
        methods.removeIf(m -> (m.getModifiers() & 1) == 0);
        methods.sort(Comparator.comparing(Method::getName));
        Due.is("calls of the face", methods.size(), 49);
        for (int seed = 0; seed < RUNS; seed++) new WildTest(seed).run(methods, 512);
        new WildTest(-1).run(methods, 20000);
        Due.end("WildTest");
    }
}

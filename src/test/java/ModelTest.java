import java.lang.reflect.InvocationTargetException;
import java.lang.reflect.Method;
import java.util.Arrays;
import java.util.HashMap;
import java.util.Map;
import java.util.Random;

/** Runs of 512 calls, the same each time, on the class and on PlainModel: all answers agree. */
public final class ModelTest {
    private static final int RUNS = 3000;
    private static final int CALLS = 512;
    // Drops are rare and flushes still rarer, or the caches never fill.
    private static final String[] OFTEN = {"read", "tag", "write", "part", "put", "put", "copy", "copy", "store",
        "kept", "count", "count", "check"};
    private static final int[] EDGES = {Integer.MIN_VALUE, -1, 0, 15, 16, 19, 20, 1023, 1024, 2047, 2048, 2079,
        2080, Integer.MAX_VALUE};
    private static final int WIDE = 32;
    private static final int[] SPREADS = {1, 2, 4, WIDE};

    private static final Map<String, Method> OF_MEMORY = methodsOf(TagMemory.class);
    private static final Map<String, Method> OF_MODEL = methodsOf(PlainModel.class);

    private final Random random;
    private final int spread;

    private ModelTest(int run) {
        random = new Random(run);
        // Narrow runs make LINES come again, wide ones make LINES and ROWS drive each other out.
        spread = SPREADS[run % SPREADS.length];
    }

    public static void main(String[] args) throws IllegalAccessException {
        Due due = new Due();
        for (int run = 0; run < RUNS; run++) {
            String wrong = new ModelTest(run).firstWrongAnswer();
            if (wrong != null) {
                due.report("run " + run + ", " + wrong);
            }
        }
        due.end();
    }

    private static Map<String, Method> methodsOf(Class<?> type) {
        Map<String, Method> methods = new HashMap<>();
        for (Method method : type.getDeclaredMethods()) {
            method.setAccessible(true);
            methods.put(method.getName(), method);
        }
        return methods;
    }

    private String firstWrongAnswer() throws IllegalAccessException {
        TagMemory memory = new TagMemory();
        PlainModel model = new PlainModel();
        for (int n = 0; n < CALLS; n++) {
            String name = nextName();
            Object[] args = argumentsOf(name);
            String got = answer(OF_MEMORY.get(name), memory, args);
            String want = answer(OF_MODEL.get(name), model, args);
            if (!got.equals(want)) {
                return "call " + n + ", " + name + Arrays.toString(args) + " answered " + got + ", due is " + want;
            }
        }
        return null;
    }

    private static String answer(Method method, Object target, Object[] args) throws IllegalAccessException {
        try {
            return String.valueOf(method.invoke(target, args));
        } catch (InvocationTargetException e) {
            return "throws." + e.getCause().getClass().getSimpleName();
        }
    }

    private String nextName() {
        if (random.nextInt(150) == 0) {
            return "flush";
        }
        return random.nextInt(15) == 0 ? "drop" : OFTEN[random.nextInt(OFTEN.length)];
    }

    private Object[] argumentsOf(String name) {
        return switch (name) {
            case "read", "tag" -> new Object[] {orEdge(word())};
            case "write" -> new Object[] {orEdge(word()), value()};
            case "part" -> new Object[] {orEdge(word()), orEdge(random.nextInt(5)), orEdge(1 + random.nextInt(2)),
                value()};
            case "put" -> new Object[] {orEdge(word() / 2), value(), value(), random.nextInt(3) != 0};
            case "copy" -> new Object[] {orEdge(word() / 2), orEdge(word() / 2)};
            case "drop" -> new Object[] {orEdge(random.nextInt(16))};
            case "store" -> new Object[] {orEdge(random.nextBoolean() ? word() : 2048 + word() / 64)};
            case "kept" -> new Object[] {orEdge(random.nextInt(20))};
            case "count" -> new Object[] {orEdge(random.nextInt(9))};
            default -> new Object[0];
        };
    }

    private int orEdge(int usual) {
        return random.nextInt(40) == 0 ? EDGES[random.nextInt(EDGES.length)] : usual;
    }

    /** Often 0: a LINE that is written with what it has already is CHANGED all the same. */
    private int value() {
        return random.nextBoolean() ? 0 : random.nextInt();
    }

    /** Narrow: few LINES of each ROW, and ROWS 0, 4, 8 .. that share a PLACE. */
    private int word() {
        if (spread == WIDE) {
            return random.nextInt(2048);
        }
        int row = 4 * random.nextInt(spread + 1) + random.nextInt(spread);
        return 64 * row + random.nextInt(16);
    }
}

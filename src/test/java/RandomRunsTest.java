import java.lang.reflect.InvocationTargetException;
import java.lang.reflect.Method;
import java.util.ArrayList;
import java.util.Arrays;
import java.util.Comparator;
import java.util.List;
import java.util.Random;

/** All promises: runs of calls by chance, on the program and on the plain model; they answer alike. */
final class RandomRunsTest {
    private static final Check check = new Check("RandomRunsTest");
    private static final int RUNS = Integer.getInteger("runs", 300);
    private static final int CALLS = 400;
    private static final int[] EDGES = {Integer.MIN_VALUE, -1000000, -1000, -999, -101, -100, -20, -10, -9, -3, -2, -1, 0,
        1, 2, 3, 4, 5, 6, 7, 8, 9, 10, 11, 19, 20, 21, 40, 41, 59, 60, 61, 99, 100, 300, 301, 999, 1000, 9999, 10000,
        Integer.MAX_VALUE};

    private final Random random;
    private final ItalicsLean lean = new ItalicsLean();
    private final PlainModel model = new PlainModel();
    private final List<String> run = new ArrayList<>();
    private static final List<Method> FACE = face();

    private RandomRunsTest(long seed) {
        random = new Random(seed);
    }

    public static void main(String[] args) throws Exception {
        check.due(0, "methods of the face", FACE.size(), 48 - 1);
        for (int seed = 0; seed < RUNS; seed++) {
            RandomRunsTest one = new RandomRunsTest(seed);
            if (!one.goes()) {
                System.out.println("seed " + seed + ": the latest calls were");
                List<String> run = one.run;
                run.subList(Math.max(0, run.size() - 60), run.size()).forEach(System.out::println);
                break;
            }
        }
        check.finish();
    }

    private static List<Method> face() {
        List<Method> all = new ArrayList<>();
        for (Method m : PlainModel.class.getDeclaredMethods()) {
            if (java.lang.reflect.Modifier.isPublic(m.getModifiers())) {
                all.add(m);
            }
        }
        all.sort(Comparator.comparing(Method::getName));
        return all;
    }

    private boolean goes() throws Exception {
        int people = random.nextInt(6);
        for (int i = 0; i < people; i++) {
            if (!call("person", random.nextInt(19) - 9, 1 + random.nextInt(9))) {
                return false;
            }
        }
        if (random.nextInt(12) == 0) {
            // Near the last year, where years can't pass.
            for (int i = 0; i < 166; i++) {
                call("year", 60);
            }
        }
        for (int i = 0; i < CALLS; i++) {
            boolean alike = switch (random.nextInt(14)) {
                case 0 -> feeds();
                case 1 -> call("year", 1 + random.nextInt(5));
                case 2 -> call("by", random.nextInt(5) - 1);
                case 3 -> call("undo");
                case 4 -> random.nextInt(3) > 0 || call(random.nextInt(3) == 0 ? "image" : "back");
                default -> any();
            };
            if (!alike) {
                return false;
            }
        }
        return looksAlike();
    }

    private boolean feeds() throws Exception {
        byte[] bytes = new TextMaker(random).make();
        if (!call("end", 0)) {
            return false;
        }
        for (int at = 0; at < bytes.length; at += 20) {
            if (!call("feed", Check.four(bytes, at), Check.four(bytes, at + 4), Check.four(bytes, at + 8),
                    Check.four(bytes, at + 12), Check.four(bytes, at + 16))) {
                return false;
            }
        }
        run.add("'" + new String(bytes, java.nio.charset.StandardCharsets.ISO_8859_1) + "'");
        return call("end", bytes.length) && call("text") && call("fault", 0) && call("fault", 1)
                && call("played", random.nextInt(4)) && looksAlike();
    }

    private boolean any() throws Exception {
        Method method = FACE.get(random.nextInt(FACE.size()));
        Object[] args = new Object[method.getParameterCount()];
        for (int i = 0; i < args.length; i++) {
            args[i] = method.getParameterTypes()[i] == boolean.class ? (Object) random.nextBoolean() : number();
        }
        return call(method.getName(), args);
    }

    private int number() {
        return switch (random.nextInt(8)) {
            case 0, 1, 2, 3 -> random.nextInt(6) - 1;
            case 4 -> random.nextInt(21) - 10;
            case 5 -> random.nextInt(64);
            case 6 -> random.nextInt(10000);
            default -> EDGES[random.nextInt(EDGES.length)];
        };
    }

    /** Everything that shows the state, without changing it. */
    private boolean looksAlike() throws Exception {
        boolean alike = true;
        for (int i = -1; i < 6 && alike; i++) {
            for (int what = 0; what < 4 && alike; what++) {
                alike = call("of", i, what) && call("seat", i, what) && call("is", what) && call("book", i, what);
            }
            alike = alike && call("about", i) && call("hears", i, 0, 5) && call("byTurns", i)
                    && call("seats", i < 0, i) && call("ragged", i) && call("page", 4 * i + 8, 0)
                    && call("line", 4 * i + 8, i) && call("upright", i, random.nextInt(19) - 9)
                    && call("ledger", i) && call("foretold", 1 + random.nextInt(60), i);
        }
        return alike && call("still", random.nextInt(19) - 9, true) && call("still", random.nextInt(19) - 9, false)
                && call("median") && call("whose") && call("meant", 3, 0) && call("meant", 1, 1)
                && call("listen", 2) && call("props", false) && call("about", 6) && call("about", 7);
    }

    private boolean call(String name, Object... args) throws Exception {
        Class<?>[] types = new Class<?>[args.length];
        for (int i = 0; i < args.length; i++) {
            types[i] = args[i] instanceof Boolean ? boolean.class : int.class;
        }
        String told = name + Arrays.toString(args);
        Object want = PlainModel.class.getMethod(name, types).invoke(model, args);
        Object got;
        try {
            got = ItalicsLean.class.getMethod(name, types).invoke(lean, args);
        } catch (InvocationTargetException thrown) {
            thrown.getCause().printStackTrace(System.out);
            got = "an exception";
        }
        run.add(told + " " + got);
        if (got.equals(want)) {
            check.due(0, told, 0, 0);
            return true;
        }
        System.out.println(told + " answered " + got + ", due is " + want);
        check.due(0, told, 1, 0);
        return false;
    }
}

import java.lang.reflect.Method;
import java.util.Arrays;
import java.util.Comparator;
import java.util.Random;
import java.util.Set;

/** Runs of calls by chance (always the same ones): StrayKeys answers as the model does. */
public final class ModelTest {
    /** An object is used for at most 512 calls; a step takes fewer than 80 of them. */
    private static final int RUNS = 700, CALLS_MOST = 512, STEP_MOST = 80;
    private static final int[] EDGES = {Integer.MIN_VALUE, -2, -1, 0, 1, 2, 3, 4, 5, 6, 7, 8, 9, 10, 12, 13, 20, 21,
        39, 40, 41, 59, 60, 61, 127, 128, 255, 2147483646, Integer.MAX_VALUE};
    private static final Set<String> WRITES = Set.of("text", "put", "row", "lay");
    private static final Checks c = new Checks("ModelTest");

    private final Random random;
    private final Method[] calls;
    private final Method[] twins;
    private final StrayKeys x = new StrayKeys();
    private final Model model = new Model();
    private final StringBuilder story = new StringBuilder();
    private boolean wrong = false;
    private int used = 0;

    private ModelTest(long seed) throws ReflectiveOperationException {
        random = new Random(seed);
        calls = Arrays.stream(StrayKeys.class.getDeclaredMethods())
            .filter(m -> java.lang.reflect.Modifier.isPublic(m.getModifiers()))
            .sorted(Comparator.comparing(Method::getName)).toArray(Method[]::new);
        twins = new Method[calls.length];
        for (int k = 0; k < calls.length; k++) {
            twins[k] = Model.class.getMethod(calls[k].getName(), calls[k].getParameterTypes());
        }
    }

    public static void main(String[] args) throws ReflectiveOperationException {
        for (int run = 0; run < RUNS; run++) {
            new ModelTest(run).go(run);
        }
        c.end();
    }

    private void go(int run) throws ReflectiveOperationException {
        for (int n = 0; n < CALLS_MOST && used < CALLS_MOST - STEP_MOST && !wrong; n++) {
            int dice = random.nextInt(100);
            if (dice < 1 || n == 5) {
                writeBoard();
            } else if (dice < 8) {
                writePairs();
            } else if (dice < 30) {
                both("press", random.nextInt(8));
            } else if (dice < 36) {
                both("scan");
            } else if (dice < 38) {
                both("undo", random.nextInt(20));
            } else {
                anyCall();
            }
        }
        c.yes("run " + run + (wrong ? story : ""), !wrong && used <= CALLS_MOST);
    }

    private void writeBoard() throws ReflectiveOperationException {
        StringBuilder signs = new StringBuilder();
        int many = 2 + random.nextInt(random.nextInt(8) == 0 ? 7 : 6);
        int lines = 2 + random.nextInt(3);
        int columns = 2 + random.nextInt(5);
        for (int k = 0; k < many; k++) {
            for (int b = random.nextInt(3); b > 0; b--) {
                signs.append(' ');
            }
            signs.append("kvsutwkkk".charAt(random.nextInt(9)));
            int place = freePlace(signs, lines, columns);
            signs.append(place / columns).append(place % columns).append(random.nextInt(3) * random.nextInt(5));
        }
        if (random.nextInt(6) == 0) {
            signs.setCharAt(random.nextInt(signs.length()), "kx09 7".charAt(random.nextInt(6)));
        }
        int t = random.nextInt(4);
        both("text", t, signs.length());
        for (int i = 0; i < signs.length(); i++) {
            both("put", t, i, (int) signs.charAt(i));
        }
        both("fault", t);
        both("board", t);
    }

    /** Mostly a place that is not taken yet. */
    private int freePlace(StringBuilder signs, int lines, int columns) {
        int place = 0;
        for (int trial = 0; trial < 20; trial++) {
            place = random.nextInt(lines * columns);
            String item = "" + place / columns + place % columns;
            if (signs.indexOf(item) < 0) {
                return place;
            }
        }
        return place;
    }

    /** Pairs as they would be told, at times a little off. */
    private void writePairs() throws ReflectiveOperationException {
        int r = random.nextInt(6);
        int pairs = random.nextInt(4);
        int sets = 1 << Math.min(7, model.count(0));
        both("row", r, 2 * pairs);
        for (int p = 0; p < pairs; p++) {
            int set = random.nextInt(sets);
            int told = Math.max(0, model.would(set)) ^ (random.nextInt(3) == 0 ? random.nextInt(sets) : 0);
            both("lay", r, 2 * p, set);
            both("lay", r, 2 * p + 1, told);
        }
        int i = random.nextInt(7);
        both("kinds", i, r);
        both("places", i, r);
        both("test", i, r);
    }

    private void anyCall() throws ReflectiveOperationException {
        int k = random.nextInt(calls.length);
        Object[] arguments = new Object[calls[k].getParameterCount()];
        for (int a = 0; a < arguments.length; a++) {
            arguments[a] = argument();
        }
        pair(k, arguments);
    }

    private int argument() {
        int dice = random.nextInt(20);
        if (dice == 0) {
            return EDGES[random.nextInt(EDGES.length)];
        }
        return dice < 14 ? random.nextInt(5) : dice < 17 ? random.nextInt(128) : random.nextInt(12);
    }

    private void both(String name, Object... arguments) throws ReflectiveOperationException {
        for (int k = 0; k < calls.length; k++) {
            if (calls[k].getName().equals(name)) {
                pair(k, arguments);
            }
        }
    }

    private void pair(int k, Object[] arguments) throws ReflectiveOperationException {
        if (wrong) {
            return;
        }
        Number got = (Number) calls[k].invoke(x, arguments);
        Number want = (Number) twins[k].invoke(model, arguments);
        used++;
        story.append("\n  ").append(calls[k].getName()).append(Arrays.toString(arguments)).append(" ").append(got);
        if (got.longValue() != want.longValue()) {
            wrong = true;
            story.append(", due is ").append(want);
        } else if (!WRITES.contains(calls[k].getName()) && random.nextInt(2) == 0) {
            look();
        }
    }

    /** Looks at all that the two tell of themselves. */
    private void look() {
        used += 5;
        boolean like = x.asked() == model.asked() && x.upper() == model.upper() && x.lower() == model.lower();
        like &= x.finding() == model.finding();
        like &= x.digest() == model.digest();
        if (!like) {
            wrong = true;
            story.append(": asked ").append(x.asked()).append(", due is ").append(model.asked())
                .append("; finding ").append(x.finding()).append(", due is ").append(model.finding());
        }
    }
}

import java.lang.reflect.InvocationTargetException;
import java.lang.reflect.Method;
import java.util.ArrayList;
import java.util.Comparator;
import java.util.List;
import java.util.Random;

/** Every call with any arguments in any state: nothing is ever thrown, and what is refused changes nothing. */
public final class WildTest {
    private static final int[] EDGES = {Integer.MIN_VALUE, Integer.MIN_VALUE + 1, -1000, -61, -60, -25, -7, -6, -5, -4, -3,
        -2, -1, 0, 1, 2, 3, 4, 5, 6, 7, 8, 9, 10, 11, 14, 15, 22, 23, 24, 25, 59, 60, 61, 63, 64, 255, 256, 1000,
        1 << 20, 1 << 30, Integer.MAX_VALUE - 1, Integer.MAX_VALUE};
    /** Five calls each time, and an object is used for 512. */
    private static final int TIMES = 75;
    private static final int LEAST_LONG_REFUSAL = 2, MOST_LONG_REFUSAL = 15;

    private final Random random;
    private final List<Method> calls = new ArrayList<>();

    private WildTest(long seed) {
        random = new Random(seed);
        for (Method m : StrideTurns.class.getDeclaredMethods()) {
            if (java.lang.reflect.Modifier.isPublic(m.getModifiers())) {
                calls.add(m);
            }
        }
        calls.sort(Comparator.comparing(Method::getName));
    }

    public static void main(String[] args) throws IllegalAccessException {
        long runs = args.length > 0 ? Long.parseLong(args[0]) : 160;
        for (long seed = 1; seed <= runs; seed++) {
            new WildTest(seed).play(seed);
        }
        Check.end();
    }

    private void play(long seed) throws IllegalAccessException {
        StrideTurns x = furnished(seed);
        for (int time = 0; time < TIMES; time++) {
            Method m = calls.get(random.nextInt(calls.size()));
            Object[] arguments = new Object[m.getParameterCount()];
            for (int a = 0; a < arguments.length; a++) {
                arguments[a] = argument();
            }
            long before = x.digest();
            int told = x.count(2);
            long answer = 0;
            try {
                answer = ((Number) m.invoke(x, arguments)).longValue();
            } catch (InvocationTargetException e) {
                Check.holds("seed " + seed + ": " + m.getName() + java.util.Arrays.toString(arguments) + " threw "
                        + e.getCause(), false);
            }
            if (isRefusal(m, answer)) {
                Check.due(0, m.getName() + java.util.Arrays.toString(arguments) + " refused: digest()", x.digest(), before);
                Check.due(0, m.getName() + " refused: count(2)", x.count(2), told);
            }
        }
    }

    private int argument() {
        int kind = random.nextInt(4);
        return kind == 0 ? EDGES[random.nextInt(EDGES.length)] : kind == 1 ? random.nextInt() >> random.nextInt(32)
                : random.nextInt(6);
    }

    private static boolean isRefusal(Method m, long answer) {
        if (m.getName().equals("get")) {
            return answer >= Long.MIN_VALUE + LEAST_LONG_REFUSAL && answer <= Long.MIN_VALUE + MOST_LONG_REFUSAL;
        }
        // refer() and mask() answer NONE for what is done, undo() no number below 0 but NOT
        return answer < StrideTurns.NONE && !m.getName().equals("digest");
    }

    private StrideTurns furnished(long seed) {
        Scene s = new Scene();
        if (seed % 4 == 0) {
            return s.x;
        }
        for (int r = 0; r < 5; r++) {
            s.row(r, (int) ((r + seed) % 5), 24 - (int) (seed % 9), 3, 1, Integer.MAX_VALUE, -5, 1, 1);
        }
        s.turns((int) (seed % 11));
        s.tell("add", 3, Scene.at(0, 0, 1, 1), Scene.at(1, 3, 0, 1), Scene.at(2, 0, 2, 0));
        s.tell("times", 2, Scene.at(3, 2, 1, 1), Scene.at(3, 2, 1, 1), Scene.constant(3));
        s.tell("copy", 5, Scene.at(4, 20, -1, -2), Scene.at(0, 0, 0, 1), Scene.at(5, 0, 0, 0));
        return s.x;
    }
}

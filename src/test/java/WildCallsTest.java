import java.lang.reflect.InvocationTargetException;
import java.lang.reflect.Method;
import java.lang.reflect.Modifier;
import java.util.Arrays;
import java.util.Comparator;
import java.util.List;
import java.util.Random;

/** Rule 7 of LANGUAGE.md: no call throws, for any arguments in any state, behind the 512th call too. */
public final class WildCallsTest {
    private static final int OBJECTS = 20;
    private static final int CALLS = 3000;
    private static final int[] EDGES = {
        -1, -2, -3, -4, 5, 6, 7, 8, 15, 16, 24, 25, 48, 49, 100, 342, 343, 2400, 2401, 65536,
        Integer.MIN_VALUE, Integer.MIN_VALUE + 1, Integer.MAX_VALUE - 1, Integer.MAX_VALUE,
    };
    private static final Due due = new Due("WildCallsTest");

    private final Random random;
    private final PerhapsWas x = new PerhapsWas();

    private WildCallsTest(int seed) {
        random = new Random(seed);
    }

    public static void main(String[] args) throws IllegalAccessException {
        List<Method> face = Arrays.stream(PerhapsWas.class.getDeclaredMethods())
                .filter(m -> Modifier.isPublic(m.getModifiers()))
                .sorted(Comparator.comparing(Method::getName)).toList();
        for (int seed = 0; seed < OBJECTS; seed++) {
            WildCallsTest wild = new WildCallsTest(seed);
            for (int k = 0; k < CALLS && due.wrongSoFar() < 20; k++) {
                wild.call(face.get(wild.random.nextInt(face.size())));
            }
        }
        due.end();
    }

    private void call(Method method) throws IllegalAccessException {
        Object[] given = new Object[method.getParameterCount()];
        for (int k = 0; k < given.length; k++) {
            given[k] = method.getParameterTypes()[k] == long.class ? (Object) wildLong() : (Object) wildInt();
        }
        String told = method.getName() + Arrays.toString(given);
        try {
            long answer = ((Number) method.invoke(x, given)).longValue();
            boolean anyInt = method.getName().equals("value");
            due.holds(told + " answered " + answer, anyInt || answer >= PerhapsWas.FULL);
        } catch (InvocationTargetException e) {
            due.holds(told + " threw " + e.getCause(), false);
        }
    }

    private int wildInt() {
        int kind = random.nextInt(12);
        return kind < 9 ? random.nextInt(4) : kind < 11 ? EDGES[random.nextInt(EDGES.length)] : random.nextInt();
    }

    private long wildLong() {
        return random.nextBoolean() ? random.nextInt(1000) : random.nextLong();
    }
}

import java.lang.reflect.InvocationTargetException;
import java.lang.reflect.Method;
import java.lang.reflect.Modifier;
import java.util.ArrayList;
import java.util.List;
import java.util.Random;

/** No call throws, whatever it is given and in whatever state: every method, with numbers at the edges of all ranges. */
public final class ExtremesTest {
    private static final int RUNS = 400;
    private static final int[] EDGES = {Integer.MIN_VALUE, Integer.MIN_VALUE + 1, -2, -1, 7, 8, 9, 10, 19, 20, 29, 30,
        99, 100, 101, 399, 400, 1000, 1001, 72999, 73000, 73001, 1000000, 1000001, Integer.MAX_VALUE - 1,
        Integer.MAX_VALUE};

    public static void main(String[] args) throws IllegalAccessException {
        Check check = new Check();
        List<Method> methods = new ArrayList<>();
        for (Method method : TreatyHouse.class.getDeclaredMethods()) {
            if (Modifier.isPublic(method.getModifiers())) {
                methods.add(method);
            }
        }
        methods.sort((one, other) -> one.getName().compareTo(other.getName()));
        for (int run = 0; run < RUNS && !check.hasWrong(); run++) {
            play(check, new Random(run), methods, run % 2 == 0 ? 3 : 12);
        }
        check.end();
    }

    private static void play(Check check, Random random, List<Method> methods, int common)
            throws IllegalAccessException {
        TreatyHouse house = new TreatyHouse();
        for (int call = 0; call < 512; call++) {
            Method method = methods.get(random.nextInt(methods.size()));
            Class<?>[] types = method.getParameterTypes();
            Object[] given = new Object[types.length];
            for (int i = 0; i < given.length; i++) {
                given[i] = chosen(random, types[i], common);
            }
            String thrown = "nothing";
            try {
                method.invoke(house, given);
            } catch (InvocationTargetException e) {
                thrown = e.getCause().toString();
            }
            check.due(method.getName() + java.util.Arrays.toString(given) + " threw " + thrown,
                thrown.equals("nothing"), true);
        }
    }

    private static Object chosen(Random random, Class<?> type, int common) {
        if (type == boolean.class) {
            return random.nextBoolean();
        }
        if (type == long.class) {
            return random.nextLong();
        }
        return random.nextInt(8) == 0 ? EDGES[random.nextInt(EDGES.length)] : random.nextInt(common);
    }
}

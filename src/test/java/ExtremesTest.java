import java.lang.reflect.InvocationTargetException;
import java.lang.reflect.Method;
import java.lang.reflect.Modifier;
import java.util.ArrayList;
import java.util.List;
import java.util.Random;

/**
 * No call throws, whatever it is given and in whatever state: every method, with numbers at the edges of all ranges, on
 * new objects and on ones that are full.
 */
public final class ExtremesTest {
    private static final int RUNS = 800;
    private static final int[] EDGES = {Integer.MIN_VALUE, Integer.MIN_VALUE + 1, -2, -1, 0, 1, 7, 8, 9, 10, 19, 20, 29, 30,
        99, 100, 101, 399, 400, 1000, 1001, 72999, 73000, 73001, 1000000, 1000001, Integer.MAX_VALUE - 1,
        Integer.MAX_VALUE};

    public static void main(String[] args) throws IllegalAccessException {
        Check check = new Check();
        List<Method> methods = new ArrayList<>();
        for (Method method : TreatyHouse.class.getDeclaredMethods()) {
            if (Modifier.isPublic(method.getModifiers())) {
                methods.add(method);
            }
        }
        methods.sort((one, other) -> one.getName().compareTo(other.getName()));
        List<Script> starts = starts(check);
        for (int run = 0; run < RUNS && !check.hasWrong(); run++) {
            Script start = starts.get(run % starts.size());
            play(check, new Random(run), methods, start, run % 2 == 0 ? 3 : 12);
        }
        check.end();
    }

    /** A new object, one with all PARTIES, AGREEMENTS and PAPERS, one with all ANNEXES, one with a long row of FOLLOWS. */
    private static List<Script> starts(Check check) {
        Script papers = new Script(check).parties(30);
        Script annexes = new Script(check).parties(2);
        for (int g = 0; g < 10; g++) {
            papers.agreement(g, 20, 1, 0, 1000);
            annexes.agreement(g, 1, 10, 1000, 0);
            for (int annex = 0; annex < 8; annex++) {
                annexes.annex(annex, g, annex % 4, annex == 0 ? 0 : 100);
            }
        }
        papers.join(0, 0, 0).join(1, 29, 9).reserve(2, 0, 0, 19, 1000000).notes(3, 399);
        annexes.tear(0, 1).tear(9, 7);
        Script follows = new Script(check).parties(3).agreement(0, 2, 2, 1, 5).join(0, 0, 0).join(1, 2, 0)
            .reserve(2, 0, 0, 0, 9).clock(1);
        for (int paper = 3; paper < 390; paper++) {
            follows.follow(paper, paper % 2, 1 - paper % 2, 0, true);
        }
        return List.of(new Script(check), new Script(check), papers, annexes, follows);
    }

    private static void play(Check check, Random random, List<Method> methods, Script start, int common)
            throws IllegalAccessException {
        TreatyHouse house = start.play();
        for (int call = start.length(); call < 512; call++) {
            Method method = methods.get(random.nextInt(methods.size()));
            Class<?>[] types = method.getParameterTypes();
            Object[] given = new Object[types.length];
            for (int i = 0; i < given.length; i++) {
                given[i] = chosen(random, types[i], common);
            }
            String thrown = "nothing";
            try {
                method.invoke(house, given);
            } catch (InvocationTargetException e) {
                thrown = e.getCause().toString();
            }
            check.due(method.getName() + java.util.Arrays.toString(given) + " threw " + thrown,
                thrown.equals("nothing"), true);
        }
    }

    private static Object chosen(Random random, Class<?> type, int common) {
        if (type == boolean.class) {
            return random.nextBoolean();
        }
        if (type == long.class) {
            int shift = random.nextInt(64);
            return random.nextBoolean() ? Long.MIN_VALUE >> shift : Long.MAX_VALUE >> shift;
        }
        return random.nextInt(8) == 0 ? EDGES[random.nextInt(EDGES.length)] : random.nextInt(common);
    }
}

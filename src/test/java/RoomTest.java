import com.sun.management.ThreadMXBean;
import java.lang.management.ManagementFactory;
import java.lang.reflect.Array;
import java.lang.reflect.Field;
import java.lang.reflect.Modifier;
import java.util.ArrayDeque;
import java.util.Collections;
import java.util.Deque;
import java.util.IdentityHashMap;
import java.util.Set;

/**
 * Rule 12 of ../shared/LANGUAGE.md: what an object holds, and what its calls make, stays small; a question makes
 * nothing at all, nor does a call that is refused.
 */
public final class RoomTest {
    private static final int MOST_OBJECTS = 1000;
    private static final int MOST_ELEMENTS = 25000;
    private static final long MOST_BYTES = 200000;
    /** What the Java machine may make for itself beside the calls. */
    private static final long SPARE_BYTES = 8192;
    private static final int ROUNDS = 2000;
    private static final Check check = new Check();
    private static final ThreadMXBean THREADS = (ThreadMXBean) ManagementFactory.getThreadMXBean();

    public static void main(String[] args) throws IllegalAccessException {
        THREADS.setThreadAllocatedMemoryEnabled(true);
        fullObject();
        check.due("what the answers add up to", madeByQuestions(follows()) > 0, true);
        long before = made();
        long sum = madeByQuestions(follows());
        long ofFollows = made() - before;
        check.due("a row of FOLLOWS, and " + ROUNDS + " times all questions, make few bytes, not " + ofFollows,
            ofFollows < MOST_BYTES + SPARE_BYTES && sum > 0, true);
        undoneAgain();
        check.end();
    }

    private static long made() {
        return THREADS.getThreadAllocatedBytes(Thread.currentThread().getId());
    }

    /** All that there can be, in 512 calls. */
    private static TreatyHouse full() {
        TreatyHouse house = Check.houseWith(22);
        for (int g = 0; g < 10; g++) {
            house.agreement(20, 1, 0, 1000);
            for (int x = 0; x < 8; x++) {
                house.annex(g, x % 4, 100);
            }
        }
        house.join(0, 0);
        house.join(1, 0);
        house.change(0, 0, 0, 5);
        for (int i = 3; i < 400; i++) {
            house.reserve(i % 2, 0, i % 20, i);
        }
        return house;
    }

    private static void fullObject() throws IllegalAccessException {
        full();
        long before = made();
        TreatyHouse house = full();
        long bytes = made() - before;
        check.due("400 PAPERS", house.count(2), 400);
        check.due("80 ANNEXES", house.count(104), 8);
        check.due("all that there can be is made of few bytes, not " + bytes, bytes < MOST_BYTES, true);
        int[] held = held(house);
        check.due("a full object holds few objects, not " + held[0], held[0] < MOST_OBJECTS, true);
        check.due("and few fields and elements, not " + held[1], held[1] < MOST_ELEMENTS, true);
        check.due("but more than its PAPERS and ANNEXES' numbers", held[0] > 480 && held[1] > 8000, true);
    }

    /** How many objects and rows are to be reached from this one, with it, and how many fields and elements they have. */
    private static int[] held(Object first) throws IllegalAccessException {
        Set<Object> seen = Collections.newSetFromMap(new IdentityHashMap<>());
        Deque<Object> open = new ArrayDeque<>();
        open.add(first);
        seen.add(first);
        int elements = 0;
        while (!open.isEmpty()) {
            Object one = open.remove();
            Class<?> type = one.getClass();
            for (int i = 0; type.isArray() && i < Array.getLength(one); i++) {
                elements++;
                reach(type.getComponentType(), Array.get(one, i), seen, open);
            }
            for (Field field : type.getDeclaredFields()) {
                if (!Modifier.isStatic(field.getModifiers())) {
                    elements++;
                    field.setAccessible(true);
                    reach(field.getType(), field.get(one), seen, open);
                }
            }
        }
        return new int[] {seen.size(), elements};
    }

    private static void reach(Class<?> type, Object one, Set<Object> seen, Deque<Object> open) {
        if (!type.isPrimitive() && one != null && seen.add(one)) {
            open.add(one);
        }
    }

    /** A chain of FOLLOWS, with two RESERVES, a CHANGE and CONSENTS, on ever new DAYS. */
    private static TreatyHouse follows() {
        TreatyHouse house = Check.houseWith(3);
        house.agreement(2, 2, 1, 5);
        house.join(0, 0);
        house.join(2, 0);
        house.reserve(0, 0, 0, 9);
        house.change(0, 0, 1, 7);
        house.annex(0, 2, 5);
        for (int day = 1; house.count(2) < 100; day++) {
            house.clock(day);
            house.follow(day % 2, 1 - day % 2, 0, true);
            house.consent(day % 2, 3);
            house.consent(2, 3);
        }
        return house;
    }

    private static long madeByQuestions(TreatyHouse house) {
        int today = house.count(3);
        questions(house, today);
        long before = made();
        long sum = 0;
        for (int round = 0; round < ROUNDS; round++) {
            sum += questions(house, round % (today + 1)) & 0xffff;
        }
        long bytes = made() - before;
        check.due("questions and refused calls make nothing, not " + bytes + " bytes", bytes < SPARE_BYTES, true);
        return sum;
    }

    private static long questions(TreatyHouse x, int d) {
        int k = x.count(3);
        long sum = x.between(0, 2, 0, 0, d, k) + x.words(1, 2, 0, 1, d, k) + x.why(1, 2, 0, 1, d, k, 3);
        sum += x.first(1, 2, 0, d % 2) + x.member(0, 0, d, k) + x.members(0, d, k) + x.since(0) + x.has(1, 0, d, k, 1);
        sum += x.paper(5, 4) + x.noted(5) + x.read(0, 0, 3) + x.size(0, 0) + x.write(0, 0, 1, d);
        sum += x.copy(0, 0, 0, 0, 0, 1, 4) + x.agreement(0, 0, 0, 0) + x.article(0, 0, 5) + (x.clock(0) ? 1 : 0);
        sum += x.sign(3, 0) + x.ratify(0, 0) + x.join(2, 0) + x.reserve(0, 1, 0, 0) + x.object(2, 2, true);
        sum += x.withdraw(2, 2) + x.change(3, 0, 0, 5) + x.consent(2, 3) + x.follow(2, 2, 0, true);
        sum += x.annex(0, 0, 101) + (x.tear(0, 1) ? 1 : 0);
        return sum;
    }

    /** A PAPER that is lodged and undone again and again makes one object each time. */
    private static void undoneAgain() {
        TreatyHouse house = Check.houseWith(1);
        house.agreement(1, 1, 0, 0);
        house.join(0, 0);
        house.undo();
        long before = made();
        for (int i = 0; i < 250; i++) {
            house.join(0, 0);
            house.undo();
        }
        long bytes = made() - before;
        check.due("250 PAPERS, undone, make few bytes, not " + bytes, bytes < 250 * 200 + SPARE_BYTES, true);
    }
}

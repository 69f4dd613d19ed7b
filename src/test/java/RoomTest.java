import java.lang.reflect.Array;
import java.lang.reflect.Field;
import java.lang.reflect.Modifier;
import java.util.ArrayDeque;
import java.util.Collections;
import java.util.Deque;
import java.util.IdentityHashMap;
import java.util.Set;

/**
 * How much room a desk takes, and that no call takes more. All calls of a run share 600,000 objects and arrays with
 * 7.3 million fields and elements, so that what one desk takes says how many a run can make.
 */
public final class RoomTest {
    private static final int MOST_OBJECTS = 450;
    private static final int MOST_ELEMENTS = 11000;

    private static int wrong = 0;

    private static void due(String what, long got, long most) {
        if (got > most) {
            wrong++;
            System.out.println(what + ": " + got + ", due is " + most + " at most");
        }
    }

    /** How many objects and arrays a desk is made of, and how many fields and elements these have. */
    private static long[] roomOf(SlipDesk desk) throws IllegalAccessException {
        Set<Object> seen = Collections.newSetFromMap(new IdentityHashMap<>());
        Deque<Object> open = new ArrayDeque<>();
        long elements = 0;
        see(desk, seen, open);
        while (!open.isEmpty()) {
            Object one = open.pop();
            if (one.getClass().isArray()) {
                elements += Array.getLength(one);
                for (int i = 0; one instanceof Object[] && i < Array.getLength(one); i++) {
                    see(Array.get(one, i), seen, open);
                }
                continue;
            }
            for (Field field : one.getClass().getDeclaredFields()) {
                if (!Modifier.isStatic(field.getModifiers())) {
                    elements++;
                    field.setAccessible(true);
                    see(field.getType().isPrimitive() ? null : field.get(one), seen, open);
                }
            }
        }
        return new long[] {seen.size(), elements};
    }

    private static void see(Object one, Set<Object> seen, Deque<Object> open) {
        if (one != null && seen.add(one)) {
            open.push(one);
        }
    }

    /** Every call of the face, each in a desk with much in it. */
    private static int callAll(SlipDesk x, int n) {
        int sum = x.day() + x.claim(500 + n) + x.write(n % 9, 1 + n) + x.order(400 + n) + x.cancel(n % 9) + x.undo();
        sum += x.would(n % 9, 70) + x.least(n % 9, 30) + x.worst(0) + x.firm() + x.half(1) + x.agree(0, 1) + x.rows(2);
        sum += x.ahead(60, 0) + x.full() + x.taken(n % 9) + x.sizes(n % 9, 0) + x.standing(n % 9);
        sum += x.rests(n % 9, (n + 1) % 9, 0) + x.pence(999, n % 9) + x.note(30, n % 9) + x.ruled(0) + x.look(0);
        sum += x.seed(n) + x.seasons(10, 30, 50, 0) + x.count(n % 15) + x.image(n % 4) + x.back(n % 4) + x.force(n % 6);
        return sum + x.offer(n % 9, 4) + x.need(n % 9, 0, 2) + x.line(0) + x.out(0);
    }

    public static void main(String[] args) throws Exception {
        SlipDesk desk = new SlipDesk();
        long[] made = roomOf(desk);
        due("objects and arrays of a new desk", made[0], MOST_OBJECTS);
        due("fields and elements of a new desk", made[1], MOST_ELEMENTS);
        for (int i = 0; i < 6; i++) {
            Bench.rule(desk, "take writes + " + i + " if short > 0 and not [lines > 4 or gone > 3];take 1 if day % 3 = " + i);
        }
        for (int run = 0; run < 12; run++) {
            Bench.slip(desk, "slip 500" + Bench.many(9, ";offer 9" + run % 10 + " " + run % 2) + ";needs 3 1 2;needs 4 2 9");
            for (int n = 0; n < 15; n++) {
                callAll(desk, n);
            }
        }
        long[] used = roomOf(desk);
        due("objects and arrays behind many calls", used[0], made[0]);
        due("fields and elements behind many calls", used[1], made[1]);
        System.out.println("RoomTest: a desk is " + made[0] + " objects and arrays with " + made[1]
                + " fields and elements, " + wrong + " faults");
        if (wrong > 0) {
            System.exit(1);
        }
    }
}

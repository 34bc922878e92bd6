import java.lang.management.ManagementFactory;
import java.lang.reflect.Array;
import java.lang.reflect.Field;
import java.lang.reflect.Modifier;
import java.util.ArrayDeque;
import java.util.Arrays;
import java.util.Deque;
import java.util.IdentityHashMap;
import java.util.Map;

/** All calls of one run live in one room: an object is made of few others, and no call makes more of them. */
public final class RoomTest {
    private static final Check CHECK = new Check();

    /** A room of 600,000 objects and 7,300,000 fields and elements has place for a thousand drawers, all used up. */
    private static final int MOST_OBJECTS = 500;
    private static final int MOST_ELEMENTS = 7000;

    private static final String FULL = Drawers.TEN + "clerk;skip b;skip c;skip d;skip e;skip f;skip g;skip h;skip i;"
            + "clerk;tie 0-number;clerk;turn;join;tie number*number-7*number;clerk;fold a z;fold b z;";

    private int objects = 0;
    private int elements = 0;

    // ---- What a drawer is made of ----

    private static RoomTest roomOf(Object first) throws IllegalAccessException {
        RoomTest room = new RoomTest();
        Map<Object, Boolean> seen = new IdentityHashMap<>();
        Deque<Object> left = new ArrayDeque<>();
        left.add(first);
        while (!left.isEmpty()) {
            Object one = left.remove();
            if (seen.put(one, true) == null) {
                room.objects++;
                room.lookInto(one, left);
            }
        }
        return room;
    }

    private void lookInto(Object one, Deque<Object> left) throws IllegalAccessException {
        if (one.getClass().isArray()) {
            elements += Array.getLength(one);
            return;
        }
        for (Field field : one.getClass().getDeclaredFields()) {
            if (!Modifier.isStatic(field.getModifiers())) {
                elements++;
                field.setAccessible(true);
                if (!field.getType().isPrimitive() && field.get(one) != null) {
                    left.add(field.get(one));
                }
            }
        }
    }

    private static void aDrawer() throws IllegalAccessException {
        MeerDrawers x = new MeerDrawers();
        RoomTest made = roomOf(x);
        CHECK.holds(made.objects + " objects", made.objects <= MOST_OBJECTS);
        CHECK.holds(made.elements + " elements", made.elements <= MOST_ELEMENTS);
        Check.tell(x, FULL);
        for (int i = 0; i < 10; i++) {
            askAll(x, 13 * i);
        }
        RoomTest used = roomOf(x);
        CHECK.due("objects of a used one", made.objects, () -> used.objects);
        CHECK.due("elements of a used one", made.elements, () -> used.elements);
    }

    // ---- What calls make ----

    /** Every call of the face once, with arguments that name something. */
    private static int askAll(MeerDrawers x, int i) {
        int card = i % 10;
        int clerk = i % 4;
        int other = (i + 1) % 4;
        int what = i % 2;
        int sum = x.put(card, clerk) + x.take((card + 5) % 10) + x.move(card, 0) + x.file(clerk) + x.undo();
        sum += x.count(i % 8) + x.card(card, i % 5) + x.clerk(clerk, i % 7) + x.key(clerk, card, 0) + x.rank(clerk, card);
        sum += x.at(clerk, card) + x.drawer(0) + x.differ(clerk, other, what) + x.votes(card, 3) + x.ring() + x.head();
        sum += x.stay(clerk) + x.stays(0) + x.search(clerk, card, what) + x.could() + x.explained() + x.telling(what);
        sum += x.matters(clerk, -1 - i % 3) + x.sees() + x.reader(clerk, card, i % 10) + x.game(clerk, other, i % 100, what);
        sum += x.years(i, i % 61, i % 3) + x.compromise(i % 11 - 1) + x.agreed() + x.closest(what) + x.off(clerk, card);
        sum += x.worst(clerk, what) + x.trays(clerk, 1 + card, -1) + x.trays(clerk, 1, 0) + x.fault();
        x.image();
        return sum + (x.restore() ? 1 : 0) + (x.before(clerk, card, 3) ? 1 : 0);
    }

    private static int tellAll(MeerDrawers x, int[] numbers, int bytes) {
        for (int i = 0; i + 4 < numbers.length; i += 5) {
            x.feed(numbers[i], numbers[i + 1], numbers[i + 2], numbers[i + 3], numbers[i + 4]);
        }
        return x.catalogue(bytes);
    }

    private static int[] numbersOf(String text) {
        int[] numbers = new int[5 * ((text.length() + 19) / 20)];
        for (int i = 0; i < 4 * numbers.length; i++) {
            numbers[i / 4] = numbers[i / 4] << 8 | (i < text.length() ? text.charAt(i) : ' ');
        }
        return numbers;
    }

    /** What this thread has made so far, in bytes. */
    private static long made() {
        return ((com.sun.management.ThreadMXBean) ManagementFactory.getThreadMXBean()).getCurrentThreadAllocatedBytes();
    }

    private static void noCallMakesAny() {
        int[] full = numbersOf(FULL);
        int[] spoilt = numbersOf(FULL + "oops");
        long least = Long.MAX_VALUE;
        // The machine itself makes some now and then (it compiles): of some rounds the least counts.
        for (int round = 0; round < 8; round++) {
            MeerDrawers[] drawers = new MeerDrawers[20];
            Arrays.setAll(drawers, i -> new MeerDrawers());
            long before = made();
            for (int i = 0; i < drawers.length; i++) {
                tellAll(drawers[i], spoilt, FULL.length() + 4);
                tellAll(drawers[i], full, FULL.length());
                askAll(drawers[i], 7 * i);
            }
            least = Math.min(least, made() - before);
        }
        long bytes = least;
        CHECK.holds("calls make nothing, but they made " + bytes + " bytes", bytes < 1000);
    }

    public static void main(String[] args) throws IllegalAccessException {
        aDrawer();
        noCallMakesAny();
        CHECK.end();
    }
}

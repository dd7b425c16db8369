import java.lang.management.ManagementFactory;
import java.lang.reflect.Array;
import java.lang.reflect.Field;
import java.lang.reflect.Modifier;
import java.util.ArrayDeque;
import java.util.Collections;
import java.util.Deque;
import java.util.IdentityHashMap;
import java.util.Set;

/** How much room a hall takes: all calls of one run share one room, so that rows are made once and used again. */
public final class RoomTest {
    private static final int ROOM_OBJECTS = 600_000;
    private static final int ROOM_ELEMENTS = 7_300_000;
    private static final int CALLS = 512;
    private static final Check check = new Check();
    private static final com.sun.management.ThreadMXBean THREADS =
            (com.sun.management.ThreadMXBean) ManagementFactory.getThreadMXBean();

    public static void main(String[] args) throws IllegalAccessException {
        oneHall();
        longestTexts();
        callsThatMakeNothing();
        slotsAreMadeOnce();
        check.end();
    }

    /** What can be reached from an object: how many objects and arrays, how many fields and elements. */
    private static final class Reach {
        int objects = 0;
        int elements = 0;
        private final Set<Object> met = Collections.newSetFromMap(new IdentityHashMap<>());
        private final Deque<Object> open = new ArrayDeque<>();

        Reach(Object start) throws IllegalAccessException {
            meet(start);
            while (!open.isEmpty()) {
                Object next = open.pop();
                objects++;
                if (next.getClass().isArray()) {
                    walkArray(next);
                } else {
                    walkFields(next);
                }
            }
        }

        private void meet(Object object) {
            if (object != null && met.add(object)) {
                open.push(object);
            }
        }

        private void walkArray(Object array) {
            int length = Array.getLength(array);
            elements += length;
            for (int i = 0; i < length && !array.getClass().getComponentType().isPrimitive(); i++) {
                meet(Array.get(array, i));
            }
        }

        private void walkFields(Object object) throws IllegalAccessException {
            for (Field f : object.getClass().getDeclaredFields()) {
                if (Modifier.isStatic(f.getModifiers())) {
                    continue;
                }
                elements++;
                f.setAccessible(true);
                if (!f.getType().isPrimitive()) {
                    meet(f.get(object));
                }
            }
        }
    }

    private static void oneHall() throws IllegalAccessException {
        HatHall x = new HatHall();
        Reach fresh = new Reach(x);
        check.yes("objects of a new hall: " + fresh.objects, fresh.objects <= 100);
        check.yes("elements of a new hall: " + fresh.elements, fresh.elements <= 60_000);
        for (int slot = 0; slot < 4; slot++) {
            x.keep(slot);
        }
        Reach full = new Reach(x);
        check.yes("objects with all slots: " + full.objects, full.objects <= 200);
        check.yes("elements with all slots: " + full.elements, full.elements <= 100_000);
    }

    /** Of each text something stays, and the room holds what all texts of 512 calls leave. */
    private static void longestTexts() throws IllegalAccessException {
        String many = "wearer 7guess not 1;".repeat(16);
        String distinct = "";
        for (int w = 0; w < 8; w++) {
            distinct += "wearer " + w + " pass me+1=2 guess seen-heard+me*q-n/2+0*0+1;";
        }
        for (String text : new String[] {many, distinct, "wearer 0guess 1+1+1;"}) {
            HatHall x = new HatHall();
            x.hall(8, 2);
            Reach before = new Reach(x);
            check.same(text, Check.told(x, text), 0);
            Reach after = new Reach(x);
            // Rules that are told over are made, too, so each one of the text counts, not those alone that stay.
            int rules = text.split(";").length;
            int times = CALLS / ((text.length() + 19) / 20 + 1);
            int objects = rules * 5 * times;
            int elements = (rules * 5 + 4 * text.length()) * times;
            check.yes("objects by '" + text + "'", after.objects - before.objects <= rules * 5);
            check.yes("elements by '" + text + "'", after.elements - before.elements <= rules * 5 + 4 * text.length());
            check.yes("all such objects: " + objects, before.objects + objects <= ROOM_OBJECTS / 10);
            check.yes("all such elements: " + elements, before.elements + elements <= ROOM_ELEMENTS / 10);
        }
    }

    private interface Call {
        long make();
    }

    private static long bit(boolean b) {
        return b ? 1 : 0;
    }

    private static long bytesOf(Call call, int times) {
        long before = THREADS.getCurrentThreadAllocatedBytes();
        for (int i = 0; i < times; i++) {
            call.make();
        }
        return THREADS.getCurrentThreadAllocatedBytes() - before;
    }

    /** The least of some tries: the machine itself makes objects now and then, the calls would make theirs each time. */
    private static void nothing(String what, Call call) {
        bytesOf(call, 3);
        long bytes = bytesOf(call, 10);
        for (int i = 0; i < 20 && bytes >= 100; i++) {
            bytes = Math.min(bytes, bytesOf(call, 10));
        }
        check.yes(what + " made " + bytes + " bytes in ten calls", bytes < 100);
    }

    private static void callsThatMakeNothing() {
        HatHall x = new HatHall();
        nothing("hall, line", () -> bit(x.hall(8, 3)) + x.line());
        nothing("hall, draw, looks", () -> bit(x.hall(4, 3)) + x.draw(7) + bit(x.looks(0, 6)));
        nothing("round", () -> bit(x.round(1, 2)) + bit(x.round(1, 0)));
        nothing("heap, law", () -> bit(x.heap(0, 9)) + bit(x.law(0, 1)));
        nothing("feed, empty rules, fault", () -> x.feed(1, 2, 3, 4, 5) + x.rules(0) + x.fault());
        nothing("rules with a fault", () -> x.feed(1, 2, 3, 4, 5) + x.rules(20));
        nothing("about", () -> x.about(0, 0) + x.about(1, 4));
        nothing("tell, cell", () -> bit(x.tell(1, 0, 2)) + x.cell(1, 0));
        nothing("in, row", () -> x.in(5, 1, 0) + x.in(5, 1, 1) + x.row(5, 0) + x.row(5, 3));
        nothing("won", () -> bit(x.heap(0, 8)) + x.won(1) + x.won(3) + x.beaten(0));
        nothing("tally, rightOf, worst", () -> x.tally(1) + x.rightOf(2) + x.worst(0) + x.worst(1));
        nothing("idle, otherwise", () -> x.idle(1) + x.otherwise(1, 2));
        nothing("alike, ring", () -> x.alike() + x.ring());
        nothing("search", () -> bit(x.hall(3, 3)) + x.search(5000) + x.steps());
        nothing("sums", () -> x.sums() + x.constant(0));
        nothing("cover", () -> bit(x.hall(4, 2)) + x.cover() + x.given(0) + bit(x.hall(5, 2)) + x.cover());
        nothing("mend", () -> x.draw(3) + x.mend(20));
        nothing("count", () -> x.count(0) + x.count(6));
    }

    private static void slotsAreMadeOnce() {
        HatHall x = new HatHall();
        nothing("keep", () -> bit(x.keep(0)) + bit(x.keep(3)));
        nothing("take", () -> bit(x.take(0)) + bit(x.take(1)) + bit(x.take(3)));
    }
}

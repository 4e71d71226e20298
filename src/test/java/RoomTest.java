import java.lang.management.ManagementFactory;
import java.lang.reflect.Array;
import java.lang.reflect.Field;
import java.lang.reflect.Modifier;
import java.util.ArrayDeque;
import java.util.ArrayList;
import java.util.Collections;
import java.util.Deque;
import java.util.IdentityHashMap;
import java.util.List;
import java.util.Set;

/** All calls of one run live in one room: what an object has is made with it, and only a law and a throw make more. */
public final class RoomTest {
    private static final int MOST_OBJECTS = 600_000;
    private static final int MOST_ELEMENTS = 7_300_000;
    private static final int MOST_CALLS = 512;
    private static final int AGAIN = 50;
    private static final String VALLEY = "witnesses 0;person age 20 grip 9;person age 30 grip 4 heir 0;"
        + "person age 9 grip 7 heir 1;heir 0 2;thing worth 9 size 3 of 0 held 0;thing worth 20 size 2 of 1 held 1;"
        + "thing worth 8 size 4 of 2 cloth 2;thing worth 8 size 4 of 1 cloth 2;thing worth 5 size 12 of 0;crown worth 3 size 1";

    // Kept once, as looking it up makes objects of its own.
    private static final com.sun.management.ThreadMXBean THREADS =
        (com.sun.management.ThreadMXBean) ManagementFactory.getThreadMXBean();

    private int objects = 0;
    private int elements = 0;

    public static void main(String[] args) throws Exception {
        aNewObject();
        manyLaws();
        callsThatMakeNothing();
        Check.end();
    }

    private static void aNewObject() throws Exception {
        RoomTest room = roomOf(new GripEstates());
        Check.due("objects of a new one, " + room.objects, true, room.objects <= 250);
        Check.due("fields and elements of a new one, " + room.elements, true, room.elements <= 10_000);
    }

    /** As many laws as an object's calls can tell, of the dearest text and of none, all of them kept for good. */
    private static void manyLaws() throws Exception {
        StringBuilder text = new StringBuilder("grip 1 if 1<2");
        while (text.length() + 5 <= 400) {
            text.append("or1<2");
        }
        int feeds = 20 + 1;
        int dearest = lawElements(text.toString());
        int least = lawElements("");
        Check.due("elements of the dearest law, " + dearest, true, dearest <= 500);
        Check.due("elements of a law of no lines, " + least, true, least <= 60);
        RoomTest room = roomOf(new GripEstates());
        int all = room.elements + Math.max(MOST_CALLS / feeds * dearest, MOST_CALLS * least);
        Check.due("a hundred objects with all their laws", true, 100L * all < MOST_ELEMENTS);
        Check.due("objects of a hundred with all their laws", true, 100L * (room.objects + 5 * MOST_CALLS) < MOST_OBJECTS);
    }

    private static int lawElements(String text) throws Exception {
        GripEstates x = new GripEstates();
        int before = roomOf(x).elements;
        Check.lawIs(x, text);
        return roomOf(x).elements - before;
    }

    private static RoomTest roomOf(GripEstates x) throws Exception {
        RoomTest room = new RoomTest();
        Set<Object> seen = Collections.newSetFromMap(new IdentityHashMap<>());
        Deque<Object> left = new ArrayDeque<>();
        left.add(x);
        while (!left.isEmpty()) {
            Object o = left.pop();
            if (seen.add(o)) {
                room.count(o, left);
            }
        }
        return room;
    }

    private void count(Object o, Deque<Object> left) throws Exception {
        objects++;
        if (o.getClass().isArray()) {
            elements += Array.getLength(o);
            for (int i = 0; i < Array.getLength(o) && !o.getClass().getComponentType().isPrimitive(); i++) {
                addOwn(Array.get(o, i), left);
            }
            return;
        }
        for (Field field : o.getClass().getDeclaredFields()) {
            if (!Modifier.isStatic(field.getModifiers())) {
                elements++;
                field.setAccessible(true);
                addOwn(field.getType().isPrimitive() ? null : field.get(o), left);
            }
        }
    }

    /** The constants of the enum are one set for all objects, so they are left out. */
    private static void addOwn(Object o, Deque<Object> left) {
        if (o != null && !(o instanceof Enum)) {
            left.add(o);
        }
    }

    private static void callsThatMakeNothing() {
        GripEstates x = Check.of(VALLEY);
        Check.lawIs(x, "grip 2 if tied or owns>1 and not alone;slip 1 if laid+size<9;fail 3 if open");
        x.image();
        List<Check.Act> calls = new ArrayList<>();
        calls.add(() -> asked(x));
        calls.add(() -> acted(x));
        calls.add(() -> reckoned(x));
        calls.add(() -> told(x));
        int number = 0;
        for (Check.Act call : calls) {
            long before = 0;
            for (int i = 0; i < AGAIN; i++) {
                // What the first time loads does not come again.
                before = i == 1 ? THREADS.getCurrentThreadAllocatedBytes() : before;
                call.go();
            }
            long bytes = THREADS.getCurrentThreadAllocatedBytes() - before;
            Check.due("bytes made by calls of row " + number, 0, bytes);
            number++;
        }
    }

    private static void asked(GripEstates x) {
        for (int p = 0; p < 3; p++) {
            for (int what = 0; what <= 17; what++) {
                x.person(p, what);
            }
            x.shuts(p, 2);
            x.led(p, true);
            x.led(p, false);
        }
        for (int what = 0; what <= 4; what++) {
            x.thing(0, what);
            x.log(0, what);
        }
        for (int what = -1; what <= 12; what++) {
            x.count(what);
        }
        x.fault();
    }

    private static void acted(GripEstates x) {
        x.open(0);
        x.lay(0, 1);
        x.clear(0);
        x.wake(0);
        x.swap(0, 1);
        x.heir(0, 1);
        x.tie(1, true);
        x.give(4, 2);
        x.born(5);
        x.nights(20);
        x.undo();
        x.seed(7);
        x.back();
        x.image();
    }

    private static void reckoned(GripEstates x) {
        x.hoard(0, 20, true);
        x.round();
        x.escheat();
        x.watch();
        x.put(-1);
        x.put(2);
        x.pairs(-1);
        x.pairs(2);
        x.rests(1);
        x.odds(4);
        x.most(0);
        x.most(1);
        x.most(2);
        x.living();
        x.idle();
        x.crown();
        x.wealth();
        x.twins();
        x.ahead(1, 60);
        x.trial(60, true);
        x.span(60, false);
    }

    private static void told(GripEstates x) {
        for (int call = 0; call < 7; call++) {
            x.feed(0x02010101, 0, 0, 0, 0);
            x.end(call < 5 ? 2 : 4);
            switch (call) {
                case 0: x.held();
                    break;
                case 1: x.likely();
                    break;
                case 2: x.ask();
                    break;
                case 3: x.strong(true);
                    break;
                case 4: x.test();
                    break;
                case 5: x.fingers(40);
                    break;
                default: x.opens(40);
            }
        }
        x.feed(0x20202020, 0, 0, 0, 0);
        x.end(4);
        x.valley();
        x.back();
    }
}

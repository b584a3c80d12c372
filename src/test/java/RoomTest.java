import java.lang.management.ManagementFactory;
import java.lang.reflect.Array;
import java.lang.reflect.Field;
import java.lang.reflect.Modifier;
import java.util.ArrayDeque;
import java.util.Collections;
import java.util.Deque;
import java.util.IdentityHashMap;
import java.util.Set;

/** All calls of a run live in one room: an object is small, and its calls make nothing. */
public final class RoomTest {
    private static final Due DUE = new Due("RoomTest");
    private static final String TEXT = "hours 24; dial a 0 5; dial b 3 7; dial c 4 11; dial d 9 23; goer p a 2 3;"
        + "goer q b 6 2; goer r c 1 1; goer s d 2 5; goer t a 7 4; comes = if night < met then out else slip + 1;"
        + "stays = long * (night + met) / 7; worth = met; dims = 30; seed 77;";

    private RoomTest() {
    }

    public static void main(String[] args) throws Exception {
        sizeOfAnObject();
        whatCallsMake();
        DUE.end();
    }

    private static void sizeOfAnObject() throws Exception {
        Set<Object> seen = Collections.newSetFromMap(new IdentityHashMap<>());
        Deque<Object> open = new ArrayDeque<>();
        open.push(new MoonDials());
        long cells = 0;
        while (!open.isEmpty()) {
            Object o = open.pop();
            if (!seen.add(o)) {
                continue;
            }
            if (o.getClass().isArray()) {
                cells += Array.getLength(o);
                for (int i = 0; o instanceof Object[] && i < Array.getLength(o); i++) {
                    open.push(Array.get(o, i));
                }
                continue;
            }
            for (Field f : o.getClass().getDeclaredFields()) {
                if (!Modifier.isStatic(f.getModifiers())) {
                    f.setAccessible(true);
                    cells++;
                    if (!f.getType().isPrimitive()) {
                        open.push(f.get(o));
                    }
                }
            }
        }
        System.out.println("RoomTest: an object is " + seen.size() + " objects of " + cells + " cells");
        DUE.isTrue("objects: " + seen.size(), seen.size() <= 100);
        DUE.isTrue("cells: " + cells, cells <= 10000);
    }

    private static void whatCallsMake() {
        com.sun.management.ThreadMXBean threads = (com.sun.management.ThreadMXBean) ManagementFactory.getThreadMXBean();
        long me = Thread.currentThread().getId();
        MoonDials x = Texts.garden(TEXT);
        callAll(x);
        long before = threads.getThreadAllocatedBytes(me);
        for (int i = 0; i < 9; i++) {
            callAll(x);
        }
        long made = threads.getThreadAllocatedBytes(me) - before;
        DUE.isTrue("bytes made by 450 calls: " + made, made < 10000);
    }

    private static void callAll(MoonDials x) {
        x.feed(0x3b3b3b3b, 1, 2, 3, 4);
        x.back(16);
        x.read();
        x.place();
        x.dial(0, 3);
        x.shows(0, 1);
        x.goer(0, 5);
        x.together(0, 1);
        x.there(3);
        x.turn(0, 1);
        x.follow(0, 1);
        x.follow(0, 0);
        x.slip(0, 2);
        x.slip(0, 3);
        x.nights(20);
        x.undo();
        x.meet(31, 0);
        x.often(0, 1, 200);
        x.alone(0, 200);
        x.earns(0, 200);
        x.right(0);
        x.agree(0, 1);
        x.round();
        x.turns(0, 31, 60);
        x.parts(0, 3, 60);
        x.knot(0, 7, 24, 60);
        x.mend(0, 31, 60);
        x.sooner(0);
        x.strangers(0);
        x.by(0, 1, 200, 0);
        x.peace(60, 1);
        x.favourite(60, 0);
        x.longest(0, 1, 200);
        x.couples(60, 0);
        x.fullest(0);
        x.game(0, 6, 0);
        x.metIn(0, 200);
        x.outIn(0, 200);
        x.year(0, 1, 200, 20);
        x.tell(3, 3, true);
        x.tell(4, 4, false);
        x.fits(1, 0, 0);
        x.look(1, 0, 4);
        x.hold(0);
        x.restore(0);
        x.forget();
        for (int what = 0; what < 17; what++) {
            x.count(what);
        }
    }
}

import com.sun.management.ThreadMXBean;
import java.lang.management.ManagementFactory;
import java.lang.reflect.Array;
import java.lang.reflect.Field;
import java.lang.reflect.Modifier;
import java.util.ArrayDeque;
import java.util.Collections;
import java.util.IdentityHashMap;
import java.util.Set;

/** A run of calls lives in one room: what an object has is little, and its calls make nothing more. */
public final class RoomTest {
    private static final String FULL = "place p;place q;place r;place s;vane a teeth 60 at p points 30;vane b teeth 60 at q;"
            + "vane c teeth 59 at r;vane d teeth 58 at s;vane e teeth 57 at p;vane f teeth 4 at q;vane g teeth 5 at r;"
            + "vane h teeth 6 at s;gear ga of a b slack 9;gear gb of b c slack 8;belt gc of c d slack 7;gear gd of d e slack 6;"
            + "belt ge of e f slack 5;gear gf of f g slack 4;belt gg of g h slack 3;gear gh of a c slack 9;"
            + "belt gi of b d slack 9;gear gj of h a slack 9;";
    private static final String ORDERS = "loop 99;loop 99;gust 50;wait 99;when right a;turn b 9;end;end;end;";

    public static void main(String[] args) throws IllegalAccessException {
        sizeOfOne();
        callsMakeNothing();
        Check.end("RoomTest");
    }

    private static void sizeOfOne() throws IllegalAccessException {
        Set<Object> seen = Collections.newSetFromMap(new IdentityHashMap<>());
        ArrayDeque<Object> open = new ArrayDeque<>();
        open.add(new VaneTown());
        int elements = 0;
        while (!open.isEmpty()) {
            Object one = open.poll();
            if (!seen.add(one)) {
                continue;
            }
            if (one.getClass().isArray()) {
                elements += Array.getLength(one);
                for (int i = 0; one instanceof Object[] && i < Array.getLength(one); i++) {
                    open.add(Array.get(one, i));
                }
                continue;
            }
            for (Field field : one.getClass().getDeclaredFields()) {
                if (!Modifier.isStatic(field.getModifiers())) {
                    elements++;
                    field.setAccessible(true);
                    if (!field.getType().isPrimitive() && field.get(one) != null) {
                        open.add(field.get(one));
                    }
                }
            }
        }
        System.out.println("an object: " + seen.size() + " objects and arrays, " + elements + " fields and elements");
        Check.due("objects and arrays are few", seen.size() <= 200, true);
        Check.due("fields and elements are few", elements <= 4500, true);
    }

    private static void callsMakeNothing() {
        VaneTown x = new VaneTown();
        ThreadMXBean threads = (ThreadMXBean) ManagementFactory.getThreadMXBean();
        long start = threads.getCurrentThreadAllocatedBytes();
        byte[] made = new byte[1 << 20];
        Check.due("what is made is counted", threads.getCurrentThreadAllocatedBytes() - start >= made.length, true);
        long least = Long.MAX_VALUE;
        for (int i = 0; i < 5; i++) {
            long before = threads.getCurrentThreadAllocatedBytes();
            calls(x);
            least = Math.min(least, threads.getCurrentThreadAllocatedBytes() - before);
        }
        // What the test itself makes of its texts is in it.
        System.out.println("bytes made by calls: " + least);
        Check.due("calls make nothing", least < 10000, true);
    }

    private static void calls(VaneTown x) {
        Check.village(x, FULL);
        Check.orders(x, ORDERS);
        x.mark();
        for (int p = 0; p < 4; p++) {
            x.wind(p, 5 * p, 20 + p);
        }
        x.tray(0, 0, 60);
        x.run(5);
        x.odds(0, 0, 20);
        x.bestWind(9, 400);
        x.mending(400);
        x.knowing(9);
        x.holding(0, 400);
        x.broken(0, 7);
        x.again(0);
        x.heaviest();
        x.ratio(0, 7);
        x.locked();
        x.common(255);
        x.sway(0, 7);
        x.parting();
        x.turn(0, 99);
        x.pass(99);
        x.back();
        x.feed(1, 2, 3, 4, 5);
        x.village(7);
    }
}

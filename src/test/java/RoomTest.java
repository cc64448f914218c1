import java.lang.management.ManagementFactory;
import java.lang.reflect.Array;
import java.lang.reflect.Field;
import java.lang.reflect.Modifier;
import java.util.ArrayList;
import java.util.IdentityHashMap;
import java.util.List;
import java.util.Map;

/** What a run of the dearest calls makes must stay far below the room that LANGUAGE.md's program has. */
public final class RoomTest {
    private static final long MOST_OBJECTS = 200, MOST_CELLS = 500000, MOST_BYTES = 4000000;
    private static final String[] FIGURES = {"12345670", "10234567", "21034567", "76543210", "12045673", "01234576"};

    private static RoundDance filled(int n, int sights) {
        RoundDance x = new RoundDance();
        refill(x, n, sights);
        return x;
    }

    private static void refill(RoundDance x, int n, int sights) {
        x.places(n);
        x.wipe();
        for (int f = 0; f < 6; f++) {
            for (int p = 0; p < 8; p++) {
                int to = FIGURES[f].charAt(p);
                if (to < '0' + n) {
                    x.say(to);
                }
            }
            x.figure(f);
        }
        for (int k = 0; k < n; k++) {
            x.want(k, n - 1 - k);
        }
        for (int i = 0; i < sights && i < n; i++) {
            x.seen(12, i, (i + 3) % n);
            x.wish(i, (i + 5) % n, 1 + 7 * i);
        }
    }

    private static long askAll(RoundDance x, int seed) {
        return x.fewest(-1) + x.standings() + x.rows(12) + x.came(12, 5, 1) + x.served(6, -1)
                + x.forced(seed % 3, 2) + x.night(seed, 99, 0, 0) + x.image(0) + x.restore(0);
    }

    private static long[] held(Object root) throws IllegalAccessException {
        Map<Object, Boolean> known = new IdentityHashMap<>();
        List<Object> open = new ArrayList<>();
        open.add(root);
        known.put(root, true);
        long cells = 0;
        for (int i = 0; i < open.size(); i++) {
            Object o = open.get(i);
            if (o.getClass().isArray()) {
                cells += Array.getLength(o);
                continue;
            }
            for (Field f : o.getClass().getDeclaredFields()) {
                if (Modifier.isStatic(f.getModifiers())) {
                    continue;
                }
                cells++;
                f.setAccessible(true);
                Object v = f.get(o);
                if (!f.getType().isPrimitive() && v != null && known.put(v, true) == null) {
                    open.add(v);
                }
            }
        }
        return new long[] {open.size(), cells};
    }

    private static long allocated() {
        com.sun.management.ThreadMXBean bean = (com.sun.management.ThreadMXBean) ManagementFactory.getThreadMXBean();
        return bean.getThreadAllocatedBytes(Thread.currentThread().getId());
    }

    public static void main(String[] args) throws Exception {
        askAll(filled(8, 6), 0);
        long before = allocated();
        RoundDance x = filled(3, 1);
        for (int n = 3; n <= 8; n++) {
            for (int sights = 0; sights <= 6; sights++) {
                refill(x, n, sights);
                askAll(x, n);
            }
        }
        for (int i = 0; i < 20; i++) {
            x.set(2, i & 1);
            askAll(x, i);
        }
        long bytes = allocated() - before;
        long[] held = held(x);
        System.out.println("RoomTest: " + held[0] + " objects and arrays with " + held[1]
                + " fields and elements are held; made in all: " + bytes + " bytes");
        long[] fresh = held(new RoundDance());
        System.out.println("RoomTest: a new object: " + fresh[0] + " with " + fresh[1]);
        if (held[0] > MOST_OBJECTS || held[1] > MOST_CELLS || bytes > MOST_BYTES || fresh[1] > 2000) {
            System.out.println("RoomTest: that is too much");
            System.exit(1);
        }
    }
}

import java.lang.management.ManagementFactory;

/**
 * What a run of as many of the dearest calls as an object answers makes in all must stay far inside the room for a
 * run: 600,000 objects and arrays, 7.3 million fields and elements. Bytes are counted: a field or an element takes
 * one at least, an object or an array sixteen.
 */
public final class RoomTest {
    private static final int MOST_CALLS = 512;
    private static final long MOST_BYTES = 7300000, MOST_BYTES_OF_A_NEW_OBJECT = 20000;
    private static final String[] FIGURES = {"12345670", "10234567", "21034567", "76543210", "12045673", "01234576"};

    private final RoundDance x = new RoundDance();
    private int used = 0;
    private long sum = 0;

    /** Counts a call; what it answered is added up, so that no call is left out as useless. */
    private void call(long answer) {
        used++;
        sum += answer;
    }

    private void fill(int n, int notes) {
        call(x.places(n));
        call(x.wipe());
        for (int f = 0; f < 6; f++) {
            for (int p = 0; p < 8; p++) {
                int to = FIGURES[f].charAt(p);
                if (to < '0' + n) {
                    call(x.say(to));
                }
            }
            call(x.figure(f));
        }
        for (int k = 0; k < n; k++) {
            call(x.want(k, n - 1 - k));
        }
        for (int i = 0; i < notes && i < n; i++) {
            call(x.seen(12, i, (i + 3) % n));
            call(x.wish(i, (i + 5) % n, 1 + 7 * i));
        }
    }

    private void askAll(int seed) {
        call(x.set(2, 8 + seed % 2));
        call(x.fewest(-1));
        call(x.standings());
        call(x.rows(12));
        call(x.came(12, 5, 1));
        call(x.served(6, -1));
        call(x.forced(seed % 3, 2));
        call(x.night(seed, 99, 0, 0));
        call(x.image(seed % 2));
        call(x.restore(seed % 2));
    }

    /** Rows that grow with the places, if they do: from the fewest to the most. */
    private void growing() {
        for (int n = 3; n <= 8; n++) {
            fill(n, 6);
            askAll(n);
        }
    }

    private void often() {
        fill(8, 6);
        for (int seed = 0; used + 10 <= MOST_CALLS; seed++) {
            askAll(seed);
        }
    }

    private static long allocated() {
        com.sun.management.ThreadMXBean bean = (com.sun.management.ThreadMXBean) ManagementFactory.getThreadMXBean();
        return bean.getThreadAllocatedBytes(Thread.currentThread().getId());
    }

    private static boolean holds(String what, long bytes, long most, int calls) {
        System.out.println("RoomTest: " + what + ": " + bytes + " bytes are made in " + calls + " calls");
        if (bytes > most || calls > MOST_CALLS) {
            System.out.println("RoomTest: " + what + ": that is too much");
            return false;
        }
        return true;
    }

    public static void main(String[] args) {
        RoomTest first = new RoomTest();
        first.often();
        long start = allocated();
        RoundDance fresh = new RoundDance();
        long made = allocated();
        RoomTest growing = new RoomTest();
        growing.growing();
        long grown = allocated();
        RoomTest often = new RoomTest();
        often.often();
        long end = allocated();
        boolean all = holds("a new object", made - start, MOST_BYTES_OF_A_NEW_OBJECT, fresh.told(0));
        all &= holds("more and more places", grown - made, MOST_BYTES, growing.used);
        all &= holds("the same again and again", end - grown, MOST_BYTES, often.used);
        if (!all || first.sum != often.sum) {
            System.exit(1);
        }
    }
}

import com.sun.management.ThreadMXBean;
import java.lang.management.ManagementFactory;

/** Dear calls come to their end, and what an object makes in all of them stays small. */
public final class RoomTest {
    private static final ThreadMXBean room = (ThreadMXBean) ManagementFactory.getThreadMXBean();
    private static final long MOST_BYTES = 100000;
    private static final long MOST_MILLIS = 60000;
    private static int wrong = 0;

    public static void main(String[] args) {
        Watch.begin("RoomTest");
        measure("made", ".1", "");
        measure("no solution, late to be seen", "", ";t:2:8;t:25:31;a:17:16;t:27:21");
        measure("many guesses", "", ";k13:25:34:26:30;k9:35:31:33");
        measure("an arrow in a row", "", ";a:34:35");
        measure("seven cages", "", ";k14:0:1:6:7;k14:2:3:8:9;k14:4:5:10:11;k14:12:13:18:19"
                + ";k14:14:15:20:21;k14:16:17:22:23;k14:24:25:30:31");
        if (wrong != 0) {
            System.exit(1);
        }
    }

    private static void measure(String name, String givens, String constraints) {
        long thread = Thread.currentThread().getId();
        run(Check.desk(givens, constraints));
        long bytes = room.getThreadAllocatedBytes(thread);
        long time = System.nanoTime();
        run(Check.desk(givens, constraints));
        bytes = room.getThreadAllocatedBytes(thread) - bytes;
        time = (System.nanoTime() - time) / 1000000;
        boolean good = bytes <= MOST_BYTES && time <= MOST_MILLIS;
        wrong += good ? 0 : 1;
        System.out.println(name + ": " + bytes + " bytes, " + time + " ms" + (good ? "" : ", which is too much"));
    }

    private static void run(NumberPlace x) {
        for (int k = 0; k < 8; k++) {
            x.strike(k % 36, 1 + k / 36);
            x.undo();
            x.solutions(20);
            x.guesses();
            x.solved(k % 36);
            x.superfluous();
            x.possible(k % 36, 1 + k % 6);
            x.needed();
            x.digest();
        }
        for (int k = 0; k < 10; k++) {
            x.deduce(500);
            x.needs(1 + k % 7);
            x.make(k, 0);
            x.undo();
            x.restart();
        }
    }
}

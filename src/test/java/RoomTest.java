import com.sun.management.ThreadMXBean;
import java.lang.management.ManagementFactory;

/** What a run may make: 600,000 objects with 7.3 million fields and elements are the room of a whole run. */
public final class RoomTest {
    private static final long MOST_BYTES = 2_000_000;

    public static void main(String[] args) {
        busyDays();
        manyCalls();
        Checks.finish();
    }

    private static long made() {
        ThreadMXBean threads = (ThreadMXBean) ManagementFactory.getThreadMXBean();
        return threads.getThreadAllocatedBytes(Thread.currentThread().getId());
    }

    private static Hundredward busy() {
        Hundredward town = new Hundredward();
        String kinds = "hfhfhrsrsrhshfhrrrrrhwhhh";
        for (int i = 0; i < 25; i++) {
            town.borrow(40);
            town.build(i, kinds.charAt(i));
        }
        for (int i = 0; i < 12; i++) {
            town.arrive(3 - i / 4, 999);
        }
        for (int plot : new int[] {1, 3, 13, 6, 8, 11}) {
            town.found(plot, 3, kinds.charAt(plot) == 's' ? 4 : 3);
        }
        return town;
    }

    /** 68 calls make the town, 440 let it live, and two ask: nearly all the calls that an object is used for. */
    private static void busyDays() {
        long before = made();
        Hundredward town = busy();
        for (int i = 0; i < 110; i++) {
            town.vote('i', 0);
            town.vote('s', 0);
            town.vote('r', 1);
            town.pass(10);
        }
        long bytes = made() - before;
        Checks.due("room for 1100 days: " + bytes, bytes < MOST_BYTES, true);
        Checks.due("busy days have entries: " + town.entries(), town.entries() > 1000, true);
        Checks.due("isBalanced", town.isBalanced(), true);
    }

    private static void manyCalls() {
        Hundredward town = busy();
        town.pass(5);
        long before = made();
        for (int i = 0; i < 60; i++) {
            town.way(0, i % 2);
            town.vote('r', i % 99 + 1);
            town.balanceAnew(i % 3);
            town.isBalanced();
            town.meanRent();
            town.workingShare();
            town.setRiver(0);
        }
        long bytes = made() - before;
        Checks.due("questions make nothing: " + bytes, bytes < 20_000, true);
    }
}

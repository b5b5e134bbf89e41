import java.lang.management.ManagementFactory;

/** All calls of a run live in one room: an object is small, and its calls make nothing. */
public final class RoomTest {
    private static final int OBJECTS = 100;

    public static void main(String[] args) {
        NightHouses warm = run();
        warm.about(0);
        long before = allocated();
        for (int i = 0; i < OBJECTS; i++) {
            warm = new NightHouses();
        }
        long each = (allocated() - before) / OBJECTS;
        Check.due("an object of " + each + " bytes is below 48 KiB", each < 48 * 1024, true);
        warm = Check.told("land 6 by 6;house a at 0 0;house b at 5 5;house c at 1 1;goes which+step*step+tilt;gale 9;");
        before = allocated();
        for (int i = 0; i < 60; i++) {
            dearCalls(warm, i);
        }
        long made = allocated() - before;
        Check.due("calls made " + made + " bytes, below 4 KiB", made < 4096, true);
        Check.finish();
    }

    private static NightHouses run() {
        NightHouses x = Check.told("land 6 by 6;house a at 0 0;house b at 5 5;house c at 1 1;goes which+step*step+tilt;gale 9;");
        for (int i = 0; i < 60; i++) {
            dearCalls(x, i);
        }
        return x;
    }

    private static long allocated() {
        return ((com.sun.management.ThreadMXBean) ManagementFactory.getThreadMXBean()).getThreadAllocatedBytes(
                Thread.currentThread().getId());
    }

    private static void dearCalls(NightHouses x, int i) {
        x.step(i % 2 == 0);
        x.plan(i % 3, 10);
        x.fence(0, 1 + i % 2, 20);
        x.post(20, 0);
        x.bell(20, 1);
        x.chase(i % 3, 3, 1);
        x.haunt(60);
        x.back(i % 3);
        x.seen(i % 13, i % 36, false);
        x.ask(0, 0);
        x.lost();
        x.image(0);
        x.undo();
        x.redo();
        x.feed(1, 2, 3, 4, 5);
        x.land();
    }
}

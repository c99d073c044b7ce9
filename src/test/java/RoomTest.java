import java.lang.management.ManagementFactory;

/** All calls of a run live in one room: 511 of the dearest calls may make next to nothing new. */
public final class RoomTest {
    private static final Check check = new Check();
    // the room has 7.3 million fields and elements; an object with all its tables takes below 300,000 ints
    private static final long MOST_BYTES = 1_000_000;

    public static void main(String[] args) {
        classCalls();
        walkCalls();
        check.end("RoomTest");
    }

    private static long made() {
        com.sun.management.ThreadMXBean bean = (com.sun.management.ThreadMXBean) ManagementFactory.getThreadMXBean();
        return bean.getThreadAllocatedBytes(Thread.currentThread().getId());
    }

    private static void classCalls() {
        made();
        long before = made();
        DistrictCutter x = new DistrictCutter();
        for (int p = 0; p < 12; p++) {
            x.place(0, 0, 0, 1, p / 2);
        }
        for (int p = 0; p < 12; p++) {
            for (int q = 0; q < p; q++) {
                x.border(q, p, 1);
            }
        }
        x.law(6, 1000);
        for (int i = 0; i < 70; i++) {
            x.cuts(i % 6);
            x.count();
            x.kth(i);
            x.which();
            x.least(i % 7);
            x.among(i % 7, i % 3);
        }
        long all = made() - before;
        check.holds("the class calls made " + all + " bytes", all < MOST_BYTES);
    }

    private static void walkCalls() {
        long before = made();
        DistrictCutter x = new DistrictCutter();
        for (int p = 0; p < 30; p++) {
            x.place(1, p, 30 - p, 1, p % 10);
        }
        int borders = 0;
        for (int gap = 1; gap < 30 && borders < 100; gap++) {
            for (int p = 0; p + gap < 30; p++) {
                borders += x.border(p, p + gap, gap) >= 0 ? 1 : 0;
            }
        }
        x.law(2, 900);
        check.due("all borders", x.land(1), 100);
        for (int p = 0; p < 30; p++) {
            x.put(p, p / 15);
        }
        check.due("lawful", x.lawful(), 0);
        for (int i = 0; i < 85; i++) {
            x.walk(200, i, i % 7);
            x.step(i);
            x.better();
            x.mend(2);
        }
        long all = made() - before;
        check.holds("the walks made " + all + " bytes", all < MOST_BYTES);
    }
}

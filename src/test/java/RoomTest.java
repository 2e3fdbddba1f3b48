import java.lang.management.ManagementFactory;

/** All calls of a run live in one room: an object makes its rows once, and no call makes anything. */
public final class RoomTest {
    private static final long OBJECT_BYTES = 8_000;
    private static final long CALL_BYTES = 4_000;

    public static void main(String[] args) {
        dearestRun(new HeardWords());
        long before = allocated();
        HeardWords x = new HeardWords();
        long made = allocated();
        long sum = dearestRun(x);
        long after = allocated();
        System.out.println("RoomTest: an object takes " + (made - before) + " bytes, its calls " + (after - made) + " (" + sum + ")");
        if (made - before > OBJECT_BYTES || after - made > CALL_BYTES) {
            System.out.println("that is more than " + OBJECT_BYTES + " and " + CALL_BYTES);
            System.exit(1);
        }
    }

    private static long allocated() {
        return ((com.sun.management.ThreadMXBean) ManagementFactory.getThreadMXBean()).getCurrentThreadAllocatedBytes();
    }

    private static long dearestRun(HeardWords x) {
        long sum = 0;
        for (int s = 0; s < 4; s++) {
            sum += x.sheet(s, s % 3, 40);
        }
        sum += x.word(0, 3, 0, 0, 9);
        for (int w = 1; w < 10; w++) {
            sum += x.word(1 + w % 2, 3 << w % 5, w % 6, w, w / 2);
        }
        for (int i = 0; i < 28; i++) {
            sum += x.type(i % 2, i) + x.wipe(i % 2) + x.road(i % 5, 5, i) + x.sheet(3, 2, i) + x.write(3) + x.read(3);
            sum += x.copy(0, 0, 0, 1, 39) + x.ordered(i % 2, 1, 0) + x.part() + x.full(i % 2, -1) + x.least(i % 2) + x.most();
            sum += x.keep(7 << i % 8) + x.orders(i % 2, i % 10) + x.brings(0, i % 2) + x.ring() + x.digest();
        }
        return sum;
    }
}

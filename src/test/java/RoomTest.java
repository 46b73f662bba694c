import java.lang.management.ManagementFactory;

/** A run's objects all live in one room: an object must make its rows once and nothing more in any call. */
public final class RoomTest {
    private static final int[] EDGES = {
        Integer.MIN_VALUE, -65537, -257, -4, -3, -2, -1, 0, 1, 2, 7, 9, 10, 11, 15, 16, 20, 40, 60, 99,
        200, 255, 256, 499, 500, 501, 4095, 9999, 65535, 65536, Integer.MAX_VALUE};

    private static long allocated() {
        return ((com.sun.management.ThreadMXBean) ManagementFactory.getThreadMXBean())
                .getThreadAllocatedBytes(Thread.currentThread().getId());
    }

    private static int edge(int i) {
        return EDGES[Math.floorMod(i, EDGES.length)];
    }

    /** Every method by turns, with edges of all kinds: none may throw, none may allocate. */
    private static long hundredCalls(HoleFair f, int i) {
        long sum = 0;
        for (int k = 0; k < 4; k++) {
            int a = edge(i + k);
            int b = edge(i / 31 + k);
            int c = edge(i / 7 + 3 * k);
            sum += f.ice(a, b, c) ? 1 : 0;
            sum += f.cut(a, b, c, a, b, c) + f.cut(i + k & 15, 3 * i + k & 15, k, 1, i & 7, 3);
            sum += f.group(a, b, c) + f.group(i & 15, i * 7 & 15, 1 + (i & 63));
            sum += (f.shut(a) ? 1 : 0) + f.settle() + f.minutes(a) + f.run(b, a) + f.run(60, 0);
            sum += f.square(a, b, c) + f.holeIs(a, b) + f.groupIs(a, b) + f.draws(a, b) + f.sound(a, b);
            sum += f.places(a, b) + f.closing(a, b, c) + f.rescue(a, b, c, a) + f.began(a, b) + f.fee(a, b, c);
            f.feed(a, b, c, i, k);
            sum += f.places(10, 1) + f.fee(5, 50, -1) + f.began(9, 0) + f.rescue(0, 255, 60, 500);
            f.feed(0x62692831, 0x3d31293b, 0x63312831, 0x3d31293b, 0x74312831);
            f.feed(0x3d313b20, 0, 0, 0, 0);
            sum += f.law(a) + f.law(15) + f.row(a, b) + (f.seed(a) ? 1 : 0) + f.draw(a) + f.keep();
            sum += (f.undo() ? 1 : 0) + f.check(a, b) + f.count(a);
        }
        return sum;
    }

    public static void main(String[] args) {
        long sum = 0;
        for (int i = 0; i < 300; i++) {
            sum += hundredCalls(new HoleFair(), i);
        }
        HoleFair f = new HoleFair();
        allocated();
        long before = allocated();
        for (int i = 0; i < 31 * 31; i++) {
            sum += hundredCalls(f, i);
        }
        long inCalls = allocated() - before;
        before = allocated();
        new HoleFair();
        long inConstructor = allocated() - before;
        System.out.println("calls take " + inCalls + " bytes, a constructor " + inConstructor + " (" + sum + ")");
        if (inCalls > 4096 || inConstructor > 64 * 1024) {
            System.out.println("that is too much");
            System.exit(1);
        }
    }
}

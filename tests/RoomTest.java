import java.lang.management.ManagementFactory;

/**
 * All calls of one run live in one room, and nothing leaves it: a call makes no object, and a new EvenErrors few.
 */
public final class RoomTest {
    private static final int CALLS = 512;
    private static final long MOST_OF_CALLS = 20_000;
    private static final long MOST_OF_ONE = 40_000;

    public static void main(String[] args) {
        com.sun.management.ThreadMXBean bean = (com.sun.management.ThreadMXBean) ManagementFactory.getThreadMXBean();
        calls(new EvenErrors());
        long start = bean.getThreadAllocatedBytes(Thread.currentThread().getId());
        EvenErrors x = new EvenErrors();
        long made = bean.getThreadAllocatedBytes(Thread.currentThread().getId());
        long sum = calls(x);
        long done = bean.getThreadAllocatedBytes(Thread.currentThread().getId());
        System.out.println("a new object " + (made - start) + " bytes, " + CALLS + " rounds of calls " + (done - made)
            + " bytes (sum " + sum + ")");
        if (made - start > MOST_OF_ONE || done - made > MOST_OF_CALLS) {
            System.out.println("that is more than the room has for it");
            System.exit(1);
        }
    }

    private static long calls(EvenErrors x) {
        String text = "3;1,0,1;(-6,99)(-5,-99)(-3,99)(-1,-99)(1,98)(3,-98)(5,99)(6,-99)";
        long sum = 0;
        for (int k = 0; k < CALLS; k++) {
            for (int l = 0; l < text.length(); l++) {
                sum += x.type(text.charAt(l));
            }
            sum += x.read() + x.lost(k % 11, 0) + x.best(0) + x.part(3, 1) + x.value(2, 0) + x.error(1, 0) + x.step(0, 1);
            sum += x.level(bits(), 0) + x.image() + x.drift(40) + x.restore() + x.undo() + x.fix(1) + x.out(3);
            sum += x.sheet(0, 3, 24) + x.film(0, 3, 0) + x.degrees(0, 3, 0, 7) + x.copy(0, 0, 0, 3, 20) + x.drop(0);
        }
        return sum;
    }

    private static int bits() {
        return 1 | 2 | 1 << 3 | 1 << 5 | 1 << 7;
    }
}

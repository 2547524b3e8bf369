import com.sun.management.ThreadMXBean;
import java.lang.management.ManagementFactory;

/** All calls of a run live in one room, so no call but the constructor may make an object. */
public final class RoomTest {
    private static final long SLACK = 2048;

    public static void main(String[] args) {
        ThreadMXBean memory = (ThreadMXBean) ManagementFactory.getThreadMXBean();
        // The first rounds load classes, which is not the engine's own doing.
        long least = Long.MAX_VALUE;
        for (int round = 0; round < 5; round++) {
            ModEngine x = new ModEngine(8, 8);
            long before = memory.getThreadAllocatedBytes(Thread.currentThread().getId());
            callEverything(x);
            long after = memory.getThreadAllocatedBytes(Thread.currentThread().getId());
            least = Math.min(least, after - before);
        }
        if (least > SLACK) {
            System.out.println("a run of calls made objects of " + least + " bytes");
            System.exit(1);
        }
        System.out.println("no call makes an object");
    }

    private static void callEverything(ModEngine x) {
        for (int i = 0; i < 8; i++) {
            x.pokeMod(i, 0x9E3779B1 * (2 * i + 1));
            x.poke(0, i, 0x85EBCA6B * (i + 1));
            x.poke(1, i, 0xC2B2AE35 * (i + 1));
            x.peek(0, i);
            x.peekMod(i);
        }
        for (int i = 0; i < 40; i++) {
            x.init();
            x.ready();
            x.addMod(2, 0, 1);
            x.subMod(3, 2, 0);
            x.mulMod(4, 2, 3);
            x.montMod(5, 4, 1);
            x.powMod(6, 5, 1);
            x.invMod(7, 6);
            x.witness(6);
            x.compare(6, 7);
            x.reduce(i % 8);
        }
    }
}

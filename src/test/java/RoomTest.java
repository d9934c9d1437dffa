import com.sun.management.ThreadMXBean;
import java.lang.management.ManagementFactory;

/**
 * What 512 calls of the dearest kinds make stays within the room of one run. An object takes
 * 16 bytes at the least and an element mostly 4, so that a bound on the bytes bounds both.
 */
public final class RoomTest {
    private static final long MOST_BYTES = 16L * 600_000;
    private static final ThreadMXBean MEMORY = (ThreadMXBean) ManagementFactory.getThreadMXBean();
    private static int wrong = 0;

    private interface Run {
        void go(TreePatches x);
    }

    public static void main(String[] args) {
        look("new", x -> {
            for (int i = 0; i < 512; i++) {
                new TreePatches();
            }
        });
        look("row", x -> {
            for (int i = 0; i < 512; i++) {
                x.row(0, 3, 160);
            }
        });
        look("far", x -> {
            for (int i = 0; i < 512; i++) {
                x.far(0, 1);
            }
        });
        look("difference", x -> {
            for (int i = 0; i < 512; i++) {
                x.difference(0, 1);
                x.forget();
            }
        });
        look("invert, apply", x -> {
            x.difference(0, 1);
            x.invert(0);
            for (int i = 0; i < 256; i++) {
                x.apply(0, 0);
                x.apply(1, 0);
                x.invert(0);
                x.forget();
            }
        });
        look("squeeze, rebase", x -> {
            x.difference(0, 1);
            for (int i = 0; i < 256; i++) {
                x.squeeze(0);
                x.forget();
                x.rebase(0, 0);
                x.forget();
            }
        });
        look("days, image, restore, tree", x -> {
            for (int i = 0; i < 128; i++) {
                x.days(0, 60);
                x.image();
                x.restore();
                x.tree(0);
                x.drop(2);
            }
        });
        if (wrong != 0) {
            System.exit(1);
        }
    }

    private static void look(String what, Run run) {
        TreePatches x = new TreePatches();
        x.row(0, 0, 2);
        x.set(0, 0, 'a');
        x.set(0, 1, '1');
        x.tree(0);
        x.tree(0);
        for (int i = 0; i < 20; i++) {
            x.days(0, 60);
            x.days(1, 60);
        }
        long before = MEMORY.getThreadAllocatedBytes(Thread.currentThread().getId());
        run.go(x);
        long made = MEMORY.getThreadAllocatedBytes(Thread.currentThread().getId()) - before;
        boolean good = made <= MOST_BYTES;
        System.out.println("512 calls of " + what + ": " + made + " bytes" + (good ? "" : ", TOO MANY"));
        wrong += good ? 0 : 1;
    }
}

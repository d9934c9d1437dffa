import com.sun.management.ThreadMXBean;
import java.lang.management.ManagementFactory;

/**
 * What 512 calls of the dearest kinds make stays within the room of one run. An object takes
 * 16 bytes at the least and an element mostly 4, so that a bound on the bytes bounds both.
 */
public final class RoomTest {
    private static final long MOST_BYTES = 16L * 600_000;
    /** Behind the two PATCHES that grew the TREES. */
    private static final int PATCH = 2;
    private static final ThreadMXBean MEMORY = (ThreadMXBean) ManagementFactory.getThreadMXBean();
    private static int wrong = 0;

    private interface Run {
        void go(TreePatches x);
    }

    public static void main(String[] args) {
        look("new", x -> {
            for (int i = 0; i < 512; i++) {
                new TreePatches();
            }
        });
        look("row", x -> {
            for (int i = 0; i < 512; i++) {
                x.row(0, 3, 160);
            }
        });
        look("far", x -> {
            for (int i = 0; i < 512; i++) {
                x.far(0, 1);
            }
        });
        look("difference", x -> {
            for (int i = 0; i < 512; i++) {
                x.difference(0, 1);
                x.forget();
            }
        });
        look("invert, apply", x -> {
            x.invert(PATCH);
            for (int i = 0; i < 256; i++) {
                x.apply(PATCH, 0);
                x.apply(PATCH + 1, 0);
                x.invert(PATCH);
                x.forget();
            }
        });
        look("squeeze, rebase", x -> {
            for (int i = 0; i < 256; i++) {
                x.squeeze(PATCH);
                x.forget();
                x.rebase(PATCH, 0);
                x.forget();
            }
        });
        look("days, image, restore, tree", x -> {
            for (int i = 0; i < 128; i++) {
                x.days(0, 60);
                x.image();
                x.restore();
                x.tree(0);
                x.drop(2);
            }
        });
        if (wrong != 0) {
            System.exit(1);
        }
    }

    /** TREES 0 and 1 have 60 NODES, and PATCH is their DIFFERENCE, of 119 EDITS: none can have more. */
    private static TreePatches grown() {
        TreePatches x = new TreePatches();
        growSixty(x, 'a', 2, 3);
        growSixty(x, 'b', 3, 2);
        x.difference(0, 1);
        must("nodes(0)", x.nodes(0), 60);
        must("nodes(1)", x.nodes(1), 60);
        must("patchOf(PATCH, 0)", x.patchOf(PATCH, 0), 119);
        return x;
    }

    /** All below one CHILD of the ROOT, the first of them told; a text has 40 NODES, a PATCH gives the rest. */
    private static void growSixty(TreePatches x, char label, int top, int first) {
        String root = new StringBuilder().append(label).append("1(").append(label).append(top).toString();
        int trees = x.status(0);
        read(x, root + ")");
        StringBuilder late = new StringBuilder(root).append('(').append(label).append(41);
        for (int key = 42; key <= 60; key++) {
            late.append(',').append(label).append(key);
        }
        read(x, late.append("))").toString());
        int gift = x.difference(trees, trees + 1);
        x.drop(trees + 1);
        x.drop(trees);
        StringBuilder early = new StringBuilder(root).append('(').append(label).append(first);
        for (int key = 4; key <= 40; key++) {
            early.append(',').append(label).append(key);
        }
        read(x, early.append("))").toString());
        x.apply(gift, trees);
    }

    private static void read(TreePatches x, String text) {
        x.row(0, 0, text.length());
        for (int i = 0; i < text.length(); i++) {
            x.set(0, i, text.charAt(i));
        }
        x.tree(0);
    }

    private static void must(String what, int got, int want) {
        if (got != want) {
            wrong++;
            System.out.println(what + " is " + got + ", due is " + want);
        }
    }

    private static void look(String what, Run run) {
        TreePatches x = grown();
        long before = MEMORY.getThreadAllocatedBytes(Thread.currentThread().getId());
        run.go(x);
        long made = MEMORY.getThreadAllocatedBytes(Thread.currentThread().getId()) - before;
        boolean good = made <= MOST_BYTES;
        System.out.println("512 calls of " + what + ": " + made + " bytes" + (good ? "" : ", TOO MANY"));
        wrong += good ? 0 : 1;
    }
}

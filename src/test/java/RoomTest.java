import com.sun.management.ThreadMXBean;
import java.lang.management.ManagementFactory;

/**
 * The room of a run: no call makes an object, and a new object is small. And wild arguments, in
 * any state, are answered: no call throws.
 */
public final class RoomTest {
    private static final int[] WILD = {
        Integer.MIN_VALUE, Integer.MIN_VALUE + 1, -65, -2, -1, 0, 1, 2, 3, 5, 7, 8, 11, 12, 30, 31, 32, 33,
        62, 63, 64, 65, 1 << 16, Integer.MAX_VALUE - 1, Integer.MAX_VALUE,
    };
    private static final ThreadMXBean BEAN = (ThreadMXBean) ManagementFactory.getThreadMXBean();

    public static void main(String[] args) {
        boolean right = true;
        SafeBlocks x = new SafeBlocks();
        long sum = 0;
        for (int round = 0; round < 3; round++) {
            long ahead = used();
            for (int n : new int[] {2, 8, 32}) {
                x.nodes(n);
                sum += callAll(x);
                x.state(round);
                for (int links = 0; links < 64; links += 16) {
                    x.rain(16);
                    sum += callAll(x);
                }
            }
            long made = used() - ahead;
            if (round == 2 && made > 20_000) {
                System.out.println("not as due: the calls made " + made + " bytes");
                right = false;
            }
        }
        long ahead = used();
        SafeBlocks one = new SafeBlocks();
        long size = used() - ahead;
        if (size > 24_000 || one.look(1) != 0) {
            System.out.println("not as due: a new object is " + size + " bytes");
            right = false;
        }
        System.out.println((right ? "room as due: " : "room not as due: ") + size + " bytes an object, sum " + sum);
        if (!right) {
            System.exit(1);
        }
    }

    private static long used() {
        return BEAN.getThreadAllocatedBytes(Thread.currentThread().getId());
    }

    private static long callAll(SafeBlocks x) {
        long sum = 0;
        for (int a : WILD) {
            sum += x.bridge(a) + x.latest(a) + x.best(a) + x.worst(a) + x.centre(a) + x.bridgesBy(a) + x.look(a);
            for (int b : WILD) {
                sum += two(x, a, b);
                for (int c : WILD) {
                    sum += three(x, a, b, c);
                }
            }
        }
        return sum + changes(x);
    }

    private static long two(SafeBlocks x, int a, int b) {
        return x.linkOf(a, b) + x.node(a, b) + x.block(a, b) + x.member(a, b) + x.child(a, b) + x.land(a, b)
            + x.doubleSafe(a, b) + x.part(a, b) + x.ring(a, b);
    }

    private static long three(SafeBlocks x, int a, int b, int c) {
        return x.story(a, b, c) + x.way(a, b, c) + x.since(a, b, c) + x.would(a, b, c) + x.between(a, b, c)
            + x.mending(a, b, c) + x.without(a, b, c) + x.wouldName(a, b, c);
    }

    private static long changes(SafeBlocks x) {
        long sum = 0;
        int links = x.look(1);
        for (int a : WILD) {
            if (a < 2 || a > 32) {
                sum += x.nodes(a) ? 1 : 0;
            }
            if (a < 1 || a > 64) {
                sum += x.rain(a) + x.undo(a == 0 ? 0 : a < 0 ? a : links + a % 7 + 1);
            }
            for (int b : WILD) {
                if (links > 0 && x.link(a, b) != SafeBlocks.NONE) {
                    sum += x.undo(1);
                }
            }
        }
        return sum + (x.look(1) == links ? 0 : fail());
    }

    private static long fail() {
        System.out.println("not as due: calls that can't be changed something");
        System.exit(1);
        return 0;
    }
}

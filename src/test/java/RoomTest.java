import java.lang.management.ManagementFactory;

/** All that a run makes stays in one room: the dearest runs of 512 calls must make little. */
public final class RoomTest {
    private static final Told TOLD = new Told();
    /** Far below the room's 7.3 million elements, of one byte at least each. */
    private static final long BYTES = 2_000_000;
    private static final String SIX = "sign a 4 6 core 2 2;sign b 3 2;line a*b*a*b*a*b-a*b*a<b>*a*b*a*b*a*b;";

    public static void main(String[] args) {
        for (int warm = 0; warm < 2; warm++) {
            run("arranging", 0);
            run("acting", 1);
            run("telling", 2);
            run("asking", 3);
            run("making", 4);
        }
        TOLD.end();
    }

    private static void run(String name, int kind) {
        com.sun.management.ThreadMXBean bean = (com.sun.management.ThreadMXBean) ManagementFactory.getThreadMXBean();
        long thread = Thread.currentThread().getId();
        SignSquares x = Told.of(SIX);
        long sum = 0;
        long before = bean.getThreadAllocatedBytes(thread);
        for (int n = 0; n < 500; n++) {
            sum += call(x, kind, n);
        }
        long made = bean.getThreadAllocatedBytes(thread) - before;
        System.out.println(name + ": " + made + " bytes, answers add up to " + sum);
        // a new object has rows of its own, some 40,000 bytes of them for some 6,000 elements
        TOLD.due(name + " makes little", made < (kind == 4 ? 500L * 60_000 : BYTES), true);
    }

    private static long call(SignSquares x, int kind, int n) {
        switch (kind) {
            case 0:
                return n % 2 == 0 ? x.gap(n / 2 % 4) : x.bestText(0, 0, 0);
            case 1:
                return (n % 2 == 0 ? x.part(0, 0) : x.join(0, 0)) ? 1 : 0;
            case 2:
                return x.text();
            case 3:
                return n % 3 == 0 ? x.spell(-1, -1, n / 3)
                        : n % 3 == 1 ? x.at(0, 1, n, n, 40) : x.box(0, 1, n % 10, n % 5, n % 2);
            default:
                return new SignSquares().count(4);
        }
    }
}

import java.lang.management.ManagementFactory;

/** A whole run of the dearest calls stays far below the room that all calls of a run live in. */
public final class RoomTest {
    private static final Due DUE = new Due("RoomTest");
    /** 7.3 million fields and elements are the limit; in bytes this is a twentieth of it. */
    private static final long MOST_BYTES = 1_500_000;

    public static void main(String[] args) {
        run();
        com.sun.management.ThreadMXBean threads = (com.sun.management.ThreadMXBean) ManagementFactory.getThreadMXBean();
        long id = Thread.currentThread().getId();
        long before = threads.getThreadAllocatedBytes(id);
        run();
        long used = threads.getThreadAllocatedBytes(id) - before;
        DUE.is("a run made " + used + " bytes: within the limit", used <= MOST_BYTES, true);
        DUE.end();
    }

    private static void run() {
        LedArms x = new LedArms();
        for (int a = 0; a < 2; a++) {
            x.arm(5 + a, 5);
            for (int j = 0; j < 3; j++) {
                x.joint(a, 3, 0, 15, 2);
            }
        }
        for (int t = 0; t < 5; t++) {
            x.tape(t % 2);
            for (int i = 0; i < 40; i++) {
                x.lead(t, i % 16 == 15 ? 14 : i % 16 / 2, 5);
            }
        }
        for (int i = 0; i < 40; i++) {
            x.share(31, 1000, i % 2);
            x.meet(0, 1);
            x.suspects(i % 5, 10 * i, 0, i % 6);
            x.anew(i % 5, 10 * i, 0, 9, 0);
            x.play(i % 5, 3 * i, 0);
            x.feed(0x6d616b65, 0x20302066, 0x726f6d20, 0x3020746f, 0x20303b20);
            x.make(20);
            x.follow(i % 5, i % 2, 0, 100);
        }
    }
}

import com.sun.management.ThreadMXBean;
import java.lang.management.ManagementFactory;

/** All calls of one run live in one room: what desks and their dearest calls make is counted in bytes. */
public final class RoomTest {
    private static final ThreadMXBean BEAN = (ThreadMXBean) ManagementFactory.getThreadMXBean();
    private static int wrong = 0;

    public static void main(String[] args) {
        calls(new TrialDesk());
        long start = made();
        TrialDesk x = new TrialDesk();
        atMost("a new desk", made() - start, 20000);
        start = made();
        for (int i = 0; i < 18; i++) {
            calls(x);
        }
        // one row for CHAINS, which grows to 49152 bytes by doubling
        atMost("some 512 calls", made() - start, 110000);
        start = made();
        for (int i = 0; i < 18; i++) {
            calls(x);
        }
        atMost("512 calls more", made() - start, 1000);
        if (wrong != 0) {
            System.exit(1);
        }
    }

    private static long made() {
        return BEAN.getThreadAllocatedBytes(Thread.currentThread().getId());
    }

    private static void atMost(String what, long bytes, long most) {
        System.out.println(what + ": " + bytes + " bytes, " + most + " at most");
        if (bytes > most) {
            wrong++;
        }
    }

    private static void calls(TrialDesk x) {
        x.factors(4);
        x.term(1);
        x.term(2);
        x.term(4);
        x.term(8);
        x.best(5);
        x.bests(4);
        x.swap();
        x.next();
        x.clear();
        for (int s = 0; s < 12; s++) {
            x.plan(s, 1);
        }
        x.chain();
        x.chainOf(3);
        x.plan(11, 0);
        x.chain();
        x.bestPart(4);
        x.part(9);
        x.see(3, 1000);
        x.see(5, -1000);
        x.weight(1, 1, 1, 1, 1, 0);
        x.miss(0);
        x.widest(2);
        x.needed();
        x.forget();
        x.undo();
    }
}

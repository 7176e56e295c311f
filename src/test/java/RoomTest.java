import com.sun.management.ThreadMXBean;
import java.lang.management.ManagementFactory;

/** Runs of the dearest calls make little: what they allocate is bounded, and rows are used again. */
public final class RoomTest {
    private static final String DRAWING = "key a;key b;key c;key d;key e;"
            + "relay p = a&b | p&!c; relay q = b&c | q&!d; relay r = c&d | r&!e; relay s = d&e | s&!a;"
            + "relay t = e&a | t&!b; relay u = a&c | u&!d&p;"
            + "green l = p&!q|r&!s&t; lamp m = u&!t|q; green n = s&q&r;"
            + "never l if a&b&c&d&e&!p; never n if !a&u&!u;";

    public static void main(String[] args) {
        Check check = new Check("room");
        ThreadMXBean threads = (ThreadMXBean) ManagementFactory.getThreadMXBean();
        long before = threads.getCurrentThreadAllocatedBytes();
        RelayHut hut = new RelayHut();
        long made = threads.getCurrentThreadAllocatedBytes();
        check.due("bytes of an object below 400,000: " + (made - before), made - before < 400_000, true);
        for (int i = 0; i < 4; i++) {
            Check.read(hut, DRAWING.replace("a&c", "a&c" + "&a".repeat(i)));
        }
        int calls = 0;
        for (int i = 0; i < 110; i++) {
            hut.use(i % 4);
            int f = hut.flaw(i);
            calls += hut.pairs(f) + hut.least(f) + hut.suiteActs() + hut.plan(i % 4, (i + 1) % 4, 1 + i % 7) + hut.next(0) & 1;
        }
        long end = threads.getCurrentThreadAllocatedBytes();
        check.due("bytes of a run below 4,000,000: " + (end - made), end - made < 4_000_000, true);
        check.due("calls were made: " + calls, calls >= 0, true);
        check.end();
    }
}

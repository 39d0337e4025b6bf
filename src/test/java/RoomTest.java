import com.sun.management.ThreadMXBean;
import java.lang.management.ManagementFactory;

/** All calls of a run live in one room: rows are made with the object, and the calls make nothing. */
public final class RoomTest {
    private static final Check CHECK = new Check();
    private static final ThreadMXBean THREADS = (ThreadMXBean) ManagementFactory.getThreadMXBean();

    public static void main(String[] args) {
        StringBuilder text = new StringBuilder();
        for (int i = 0; i < 12; i++) {
            text.append("op ").append((char) ('a' + i)).append(" unit ").append(i % 5)
                    .append(" r").append(i * 5 % 8).append("=r").append(i * 3 % 8).append("+r").append(i % 8).append(';');
        }
        for (int i = 0; i < 8; i++) {
            text.append("instr z").append(i).append(":a");
            for (int k = 1; k < 24; k++) {
                text.append(k % 10 == 0 ? '!' : ',').append((char) ('a' + (k * (i + 1) + i) % 12));
            }
            text.append(';');
        }
        long sum = allCalls(text.toString());
        sum += allCalls(text.toString());
        long before = THREADS.getCurrentThreadAllocatedBytes();
        MicrocodeOptimizer x = new MicrocodeOptimizer();
        long made = THREADS.getCurrentThreadAllocatedBytes();
        Check.put(x, text.toString());
        long put = THREADS.getCurrentThreadAllocatedBytes();
        sum += dearCalls(x);
        long after = THREADS.getCurrentThreadAllocatedBytes();
        CHECK.due("an object takes at most 100,000 bytes: " + (made - before), made - before < 100_000, true);
        CHECK.due("its calls take next to nothing: " + (after - put), after - put < 20_000, true);
        CHECK.due("the text was loaded", x.instructionCount(), 8);
        CHECK.due("the calls answered something", sum != 0, true);
        CHECK.end();
    }

    private static long allCalls(String text) {
        MicrocodeOptimizer x = new MicrocodeOptimizer();
        Check.put(x, text);
        return dearCalls(x);
    }

    /** The dearest calls, some 450 of them. */
    private static long dearCalls(MicrocodeOptimizer x) {
        long sum = x.load();
        for (int i = 0; i < 50; i++) {
            sum += x.setMode(i % 3) + x.fieldBits() + x.setMark(i % 8, i % 9, i % 2 == 0) + x.fieldCount();
            sum += x.control(i) + x.write() + x.runSource(i % 8) + (x.agrees(i % 8) ? 1 : 0) + x.start(i % 8, i % 3);
        }
        return sum;
    }
}

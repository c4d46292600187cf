import com.sun.management.ThreadMXBean;
import java.lang.management.ManagementFactory;

/** No call makes an object, whatever it does; and a run of the dearest calls ends soon. */
public final class RoomTest {
    private static final int[] EXTREMES = {Integer.MIN_VALUE, Integer.MIN_VALUE + 1, -32, -1, 0, 1, 4, 31, 32, 33, 80,
        Integer.MAX_VALUE - 1, Integer.MAX_VALUE};
    private static final ThreadMXBean THREADS = (ThreadMXBean) ManagementFactory.getThreadMXBean();

    public static void main(String[] args) {
        RowVotes x = full();
        long sum = dearCalls(x) + extremes(x);
        RowVotes y = full();
        RowVotes z = new RowVotes();
        long before = THREADS.getThreadAllocatedBytes(Thread.currentThread().getId());
        sum += dearCalls(y) + extremes(y) + extremes(z);
        long after = THREADS.getThreadAllocatedBytes(Thread.currentThread().getId());
        // the measuring itself may make a little
        Due.is("objects are made: " + (after - before) + " bytes", after - before < 4096 ? 0 : 1, 0);
        Due.is("the calls have been made", sum == 0 ? 0 : 1, 1);
        Due.end();
    }

    /** As much of everything as there can be, and all of it fits. */
    private static RowVotes full() {
        RowVotes x = new RowVotes();
        x.set(0, 10);
        x.set(1, 16);
        x.set(2, 9);
        for (int i = 0; i < 4; i++) {
            x.thing(0, 9, 100 * i, 0, 300, 50 * i);
        }
        for (int i = 0; i < 5; i++) {
            x.shoot();
            x.pass(3);
        }
        for (int i = 0; i < 40; i++) {
            x.type('s');
            x.type(';');
        }
        return x;
    }

    private static long dearCalls(RowVotes x) {
        long sum = 0;
        for (int i = 0; i < 100; i++) {
            sum += x.motions(i % 4, i % 5) + x.periods() + x.bestWait(i % 5, i % 2) + x.judge(0, 1) + x.play();
            sum += x.undo() + x.weighed(1, 0) + x.slant(2) + x.fault(i % 3) + x.fitting(i % 5) + x.frameOf(i % 5, 2);
        }
        return sum;
    }

    /** Each call with each of the extremes, in each of its arguments. */
    private static long extremes(RowVotes x) {
        long sum = 0;
        for (int a : EXTREMES) {
            for (int b : EXTREMES) {
                sum += x.set(a, b) + x.turn(a, b) + x.thingOf(a, b) + x.blind(a, b) + x.frameOf(a, b) + x.edges(a, b);
                sum += x.shift(a, b) + x.dissent(a, b) + x.speed(a, b) + x.weighed(a, b) + x.judge(a, b);
                sum += x.rowOf(a, b) + x.bestWait(a, b) + x.motions(a, b);
                for (int c : EXTREMES) {
                    sum += x.shows(a, b, c) + x.pixel(a, b, c) + x.vote(a, b, c) + x.voters(a, b, c);
                    sum += x.thing(a, b, c, a, b, c) + x.thing(0, 0, a, b, 60, c) + x.thing(0, 0, 0, 0, a, b);
                }
            }
            sum += x.forget(a) + x.pass(a) + x.slant(a) + x.slantSpeed(a) + x.fitting(a) + x.count(a) + x.type(a);
            sum += x.fault(a) + x.shoot() + x.periods() + x.play() + x.undo();
        }
        return sum + x.clearText();
    }
}

import java.lang.management.ManagementFactory;

/** All calls of a run share one room: an object is small, and its calls make next to nothing. */
public final class RoomTest {
    private static final com.sun.management.ThreadMXBean BEAN = (com.sun.management.ThreadMXBean) ManagementFactory.getThreadMXBean();
    private static long sum;

    private static long spent() {
        return BEAN.getThreadAllocatedBytes(Thread.currentThread().getId());
    }

    private static void calls(FlungFingers x) {
        x.rule(2, 0, 4, 0);
        x.slate(21);
        for (int i = 0; i < 40; i++) {
            x.round(-1, -1);
        }
        for (int i = 0; i < 60; i++) {
            x.heard(i * 7 % 1000, 500, i % 2);
        }
        for (int i = 0; i < 9; i++) {
            x.left(i % 2, 2 + i % 3);
        }
        for (int i = 0; i < 120; i++) {
            x.flung(0, i % 4);
        }
        for (int i = 0; i < 23; i++) {
            sum += x.value() + x.fills() + x.had(7, 0, true) + x.wrong() + x.told(0) + x.toldAt(0, 3);
            sum += x.foreseen(0) + x.tail(0, 0, 0, 0) + x.millionths() + x.answer(0, 77) + x.answers(0, 77, 0);
            sum += x.late(0) + x.can(5) + x.digest();
        }
    }

    public static void main(String[] args) {
        calls(new FlungFingers());
        long start = spent();
        FlungFingers x = new FlungFingers();
        long made = spent() - start;
        calls(x);
        long run = spent() - start - made;
        System.out.println("an object takes " + made + " bytes, a run of calls " + run + " (" + sum + ")");
        if (made > 60000 || run > 10000) {
            System.out.println("that is too much");
            System.exit(1);
        }
    }
}

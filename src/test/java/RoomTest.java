import java.lang.management.ManagementFactory;

/** That calls make nothing, so that all calls of a run have room: only exceptions and the object itself are made. */
public final class RoomTest {
    private static int wrong = 0;
    private static long answers = 0;

    public static void main(String[] args) {
        com.sun.management.ThreadMXBean threads = (com.sun.management.ThreadMXBean) ManagementFactory.getThreadMXBean();
        long thread = Thread.currentThread().getId();
        // once ahead of measuring, so that what the machine itself loads is not counted
        fullDay();
        dearCalls(fullDay());
        long start = threads.getThreadAllocatedBytes(thread);
        Couriersday day = fullDay();
        long made = threads.getThreadAllocatedBytes(thread) - start;
        check(made < 100000, "a day takes " + made + " bytes");
        start = threads.getThreadAllocatedBytes(thread);
        for (int i = 0; i < 20; i++) {
            dearCalls(day);
        }
        made = threads.getThreadAllocatedBytes(thread) - start;
        check(made < 10000, "460 calls take " + made + " bytes");
        System.out.println(wrong == 0 ? "there is room, answers sum up to " + answers : wrong + " are wrong");
        if (wrong != 0) {
            System.exit(1);
        }
    }

    private static void check(boolean isGood, String told) {
        if (!isGood) {
            wrong++;
            System.out.println(told);
        }
    }

    private static Couriersday fullDay() {
        Couriersday d = new Couriersday();
        for (int i = 0; i < 30; i++) {
            d.street(i % 10, (i + 1) % 10, 1 + i % 7, 100, 1);
            d.street((i + 1) % 10, i % 10, 1 + i % 7, 100, 1);
        }
        for (int i = 0; i < 9; i++) {
            d.parcel(i + 1, 10, i % 3);
        }
        for (int i = 0; i < 3; i++) {
            d.van(900, 480, 2000);
        }
        return d;
    }

    private static void dearCalls(Couriersday d) {
        answers += d.savings(0) + d.turned(0, 1, 6) + d.better(0) + d.exact(0) + d.ofRound(0, 7) + d.share(1);
        answers += d.swapEnds(0, 5, 1, 0) + d.blocks() + d.together(7) + d.errors() + d.balance() + d.takeOut(3);
        answers += d.putInCost(3) + d.putIn(3) + d.arrival(0, 5, 100) + d.piece(1, 1) + d.leastTime(500);
        answers += d.undo() + d.undo() + d.undo() + d.undo() + d.undo() + d.undo() + d.undo();
        answers += d.rules(100, 20, 600);
    }
}

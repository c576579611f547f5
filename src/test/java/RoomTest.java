import java.lang.management.ManagementFactory;

/** All calls of a run live in one room: an object is small, and its calls make nothing. */
public final class RoomTest {
    private static final String DEAREST = "y8;l0,1;l1,2;l2,3;l3,4;l4,5;l5,6;l6,7;l7,0;"
            + "p1;w01;p2;w012;p3;w0123;p4;w01234;p5;w0123456;f20;";

    private final com.sun.management.ThreadMXBean threads =
            (com.sun.management.ThreadMXBean) ManagementFactory.getThreadMXBean();
    private final long self = Thread.currentThread().getId();
    private long sum;

    public static void main(String[] args) {
        RoomTest test = new RoomTest();
        Checks checks = new Checks();
        test.bytesOf(null);
        long object = test.bytesOf(null);
        System.out.println("an object takes " + object + " bytes");
        checks.due("an object takes 50000 bytes at most", object <= 50000);
        FollowingCalf x = Checks.written(new FollowingCalf(), DEAREST);
        checks.due("the dearest farm is laid", x.lay(), 5);
        test.bytesOf(x);
        long calls = test.bytesOf(x);
        checks.due("calls make nothing", calls, 0);
        checks.end("RoomTest");
    }

    private long bytesOf(FollowingCalf x) {
        long ahead = threads.getThreadAllocatedBytes(self);
        if (x == null) {
            sum += new FollowingCalf().count(0);
        } else {
            sum += everyCall(x);
        }
        return threads.getThreadAllocatedBytes(self) - ahead;
    }

    private static long everyCall(FollowingCalf x) {
        long sum = x.fault() + x.lay() + x.far(0, 4) + x.person(0, 5);
        for (int k = 0; k < 15; k++) {
            sum += x.feed(k % 5) + x.pass(1) + x.calf(400, 0) + x.goal(0, 2 * k) + x.seen(0, k);
            sum += x.price() + x.first() + x.bars() + x.game(12, 0, k, 1) + x.how() + x.sure(1);
            sum += x.chance(1, 6, 0) + x.year(k, 400, 1) + x.keep() + x.count(k);
        }
        return sum + x.undo() + x.back() + x.noGoals() + x.forget() + x.write(3, 0x63303bL);
    }
}

import java.lang.management.ManagementFactory;

/** All calls live in one room: behind the constructor no call makes an object. */
public final class RoomTest {
    private static final long ENOUGH = 16384;

    public static void main(String[] args) {
        com.sun.management.ThreadMXBean room = (com.sun.management.ThreadMXBean) ManagementFactory.getThreadMXBean();
        long thread = Thread.currentThread().getId();
        round(new SeeSawForFive(), "warm");
        SeeSawForFive x = new SeeSawForFive();
        long before = room.getThreadAllocatedBytes(thread);
        int sum = round(x, "b6,9;t3;cc9,1;ch8,2;ci7,3;ct6,4;cb5,5;s0l1;s1l2;s2r3;s3r4;s4r5;");
        long made = room.getThreadAllocatedBytes(thread) - before;
        Due.is("bytes made by all calls twenty times (" + made + ", " + sum + ")", made < ENOUGH ? 1 : 0, 1);
        before = room.getThreadAllocatedBytes(thread);
        x = new SeeSawForFive();
        made = room.getThreadAllocatedBytes(thread) - before;
        Due.is("bytes of a new object (" + made + ")", made < ENOUGH ? 1 : 0, 1);
        Due.is("new", x.count(0), 0);
        Due.end("RoomTest");
    }

    private static int round(SeeSawForFive x, String text) {
        int sum = 0;
        for (int i = 0; i < text.length(); i++) {
            sum += x.letter(text.charAt(i));
        }
        sum += x.board();
        for (int i = 0; i < 20; i++) {
            sum += x.notch(i % 5) + x.level() + x.off() + x.first(0, 1) + x.sum() + x.down() + x.bucket(6);
            sum += x.notchBest() + x.orders(90) + x.order(200, 1) + x.leastBang() + x.go(1, 2, -3, 0) + x.fitting(0);
            sum += x.next(3, -3) + x.inertia() + x.comesDown(0) + x.up(0) + x.thrown(9, 9, 6, 0, 0) + x.highest(0);
            sum += x.guess(3, 23, 14) + x.parting(2, 3, 0) + x.guessed(23, 14, 0) + x.rules() + x.seeds(20, i, 0);
            sum += x.row(7) + x.judge() + x.image() + x.on() + x.count(1) + x.child(0, 0) + x.seat(0) + x.sit(0, -6);
        }
        return sum;
    }
}

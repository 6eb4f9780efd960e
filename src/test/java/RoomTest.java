import java.lang.management.ManagementFactory;

/** That calls make no objects: all of a run live in one room. */
public final class RoomTest {
    public static void main(String[] args) {
        com.sun.management.ThreadMXBean meter = (com.sun.management.ThreadMXBean) ManagementFactory.getThreadMXBean();
        long me = Thread.currentThread().getId();
        WhisperPress x = new WhisperPress();
        for (int p = 0; p < 16; p++) {
            x.person(p, 1 << p, p % 2 == 0);
        }
        long sum = 0;
        for (int i = 0; i < 50; i++) {
            sum += calls(x);
        }
        long before = meter.getThreadAllocatedBytes(me);
        for (int i = 0; i < 50; i++) {
            sum += calls(x);
        }
        long made = meter.getThreadAllocatedBytes(me) - before;
        Due.due("bytes made by calls (below 1000 is the meter's own)", true, made < 1000);
        Due.due("the calls were made", true, sum != 0);
        Due.end();
    }

    /** e1+u(1=1);h9(1=1). */
    private static void feedLaw(WhisperPress x) {
        x.feed(0x65312b75, 0x28313d31, 0x293b6839, 0x28313d31, 0x29000000);
    }

    private static long calls(WhisperPress x) {
        feedLaw(x);
        long sum = x.law(17);
        x.feed(0x612d413b, 0x622b433b, 0x613e633b, 0x643d3931, 0);
        sum += x.gossip(16);
        x.feed(0x39616263, 0x5f646566, 0x5f396768, 0, 0);
        sum += x.copy(12);
        sum += x.keep() + x.weeks(3) + x.tried(20, 0) + x.allKnow(3, 20) + x.silent(20);
        sum += x.alone() + x.enough(1) + x.blackmail(255, 1) + x.pair(2) + x.reached(1) + x.mostPrinted(1);
        sum += x.set(20, 0) + x.lineOf(20, 5) + x.copyIs(2) + x.type(1) + x.bought(2);
        for (int what = 0; what < 6; what++) {
            x.feed(0x01020304, 0x05060708, 0x09000b0c, 0x0d0e0f01, 0x02030405);
            sum += what == 0 ? x.nuns(8, 3) : what == 1 ? x.space(8, 40, 0) : what == 2 ? x.style(4, 1)
                    : what == 3 ? x.names(10, 10) : what == 4 ? x.duty(0, 2) : x.hands(2, 0);
        }
        x.check(0);
        return sum + (x.undo() ? 1 : 0);
    }
}

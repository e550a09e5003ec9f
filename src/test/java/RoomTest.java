import com.sun.management.ThreadMXBean;
import java.lang.management.ManagementFactory;

/** All calls of one run live in one room: what an object makes is small, and made once. */
public final class RoomTest {
    private static final Check C = new Check("RoomTest");
    private static final ThreadMXBean THREADS = (ThreadMXBean) ManagementFactory.getThreadMXBean();

    private static long made() {
        return THREADS.getThreadAllocatedBytes(Thread.currentThread().getId());
    }

    public static void main(String[] args) {
        dearestCalls(false);
        dearestCalls(true);
        C.end();
    }

    private static void dearestCalls(boolean counted) {
        StringBuilder t = new StringBuilder("towns12;");
        for (int r = 0; r < 24; r++) {
            t.append("road").append(r / 2).append("to").append((r / 2 + 1 + r % 2) % 12).append("toll1days9;");
        }
        byte[] text = Check.padded(t.toString());
        made();
        long before = made();
        TollsBack x = new TollsBack();
        long object = made() - before;
        before = made();
        for (int times = 0; times < 5; times++) {
            for (int at = 0; at < text.length; at += 20) {
                x.feed(Check.intAt(text, at), Check.intAt(text, at + 4), Check.intAt(text, at + 8),
                        Check.intAt(text, at + 12), Check.intAt(text, at + 16));
            }
            x.kingdom(t.length());
            for (int i = 0; i < 6; i++) {
                x.comes(1000);
                x.fair(i, i, 40);
            }
            x.numbers(0, 3, 40);
            for (int k = 0; k < 10; k++) {
                x.image(k % 2);
                x.restore(k % 2);
                x.through(0, 4095, 8, 0);
                x.journeys(0, 40);
                x.journey(0, 40, Integer.MAX_VALUE, 39);
                x.box(0);
                x.lane(0, 11, 0, 20);
                x.partner(0);
                x.gain(0, 1, 0);
                x.price(0, 1);
                x.judge(0, 0, 0);
                x.meet(0, 0, 1, 0, 0);
                x.cutOff(0);
                x.homeward(0, 0);
                x.copy(0, 0);
            }
        }
        long calls = made() - before;
        if (counted) {
            C.holds("an object: " + object + " bytes", object < 60000);
            C.holds("its calls, two images among them: " + calls + " bytes", calls < 40000);
        }
    }
}

import com.sun.management.ThreadMXBean;
import java.lang.management.ManagementFactory;

/** All calls live in one room: an object is some thousand numbers, and no call makes anything. */
public final class RoomTest {
    private static final int MOST_BYTES_OF_AN_OBJECT = 32000;
    private static final int SOME_BYTES_OF_THE_METER = 2000;

    public static void main(String[] args) {
        Check check = new Check("room");
        ThreadMXBean meter = (ThreadMXBean) ManagementFactory.getThreadMXBean();
        HuntedScent x = new HuntedScent();
        calls(x);
        long before = meter.getCurrentThreadAllocatedBytes();
        HuntedScent y = new HuntedScent();
        long made = meter.getCurrentThreadAllocatedBytes();
        calls(y);
        long after = meter.getCurrentThreadAllocatedBytes();
        check.holds("an object has " + (made - before) + " bytes", made - before <= MOST_BYTES_OF_AN_OBJECT);
        check.holds("its calls made " + (after - made) + " bytes", after - made <= SOME_BYTES_OF_THE_METER);
        check.done();
    }

    private static void calls(HuntedScent x) {
        for (int round = 0; round < 8; round++) {
            x.feed(0x6c616e6520302031L);
            x.feed(0x20322033203b2020L);
            x.end(13);
            x.text();
            x.join(0, round % 4 + 1, round % 2 == 0);
            x.fox(0);
            x.go(1);
            x.smelt(5, 1, round);
            x.keep(round % 2);
            x.ways(5);
            x.can(5, 3);
            x.cannot();
            x.doubt(0, 3, round, 0);
            x.post(0, 3, round, 0);
            x.casts(2, 31, 0);
            x.need();
            x.caught(0, 1, 2);
            x.flees(0, 1, 2);
            x.best(0);
            x.open(0, 4);
            x.stop(0, 4, 0);
            x.season(round, 20, 1);
            x.sheet(0, 2, 30);
            x.lay(0, 4, 3);
            x.read(0, 2, 0, 10);
            x.back(0);
        }
    }
}

import java.lang.management.ManagementFactory;

/** What a run makes is kept small: an object is made once, its calls make next to nothing. */
public final class RoomTest {
    private static final Check CHECK = new Check("RoomTest");
    private static final long MOST_BYTES_OF_AN_OBJECT = 16384;

    private static volatile long kept;

    public static void main(String[] args) {
        com.sun.management.ThreadMXBean threads = (com.sun.management.ThreadMXBean) ManagementFactory.getThreadMXBean();
        dearestCalls(new WeatherDisguise());
        WeatherDisguise x = new WeatherDisguise();
        long before = threads.getCurrentThreadAllocatedBytes();
        dearestCalls(x);
        long behind = threads.getCurrentThreadAllocatedBytes();
        CHECK.holds("what some 450 calls make, " + (behind - before) + " bytes", behind - before < 1024);
        before = threads.getCurrentThreadAllocatedBytes();
        WeatherDisguise y = new WeatherDisguise();
        behind = threads.getCurrentThreadAllocatedBytes();
        kept += y.many(0);
        CHECK.holds("what an object takes, " + (behind - before) + " bytes", behind - before < MOST_BYTES_OF_AN_OBJECT);
        CHECK.end();
    }

    private static void dearestCalls(WeatherDisguise x) {
        long sum = x.feed(0x3b35207461207961L, 8);
        for (int i = 0; i < 8; i++) {
            sum += x.air(i % 6, i, i, 15 - i);
        }
        x.sheet(0, 2, 40);
        x.shelf(0, 0, 4);
        for (int i = 0; i < 30; i++) {
            sum += x.fits(0, i % 8, 0) + x.seen(30) + x.blown(30) + x.kindFor(i % 8, 30) + x.windFor(i % 8, 30);
            sum += x.told(i % 8) + x.meets(0, 3) + x.stops(5) + x.dryWay(0, 15) + x.odds(8, 3, 0) + x.prove(1, 10);
            sum += x.judge(1) + x.act(0, 3, i) + x.keep() + x.again() + x.city();
            x.air(4, 4, 4, 4);
        }
        kept += sum;
    }
}

import com.sun.management.ThreadMXBean;
import java.lang.management.ManagementFactory;

/** What an object and its dearest calls make: all of a run lives in one room. */
public final class RoomTest {
    // 7.3 million elements of up to 8 bytes are the room; one object with 512 calls stays far below.
    private static final long OBJECT_MOST = 100_000;
    private static final long CALLS_MOST = 200_000;

    public static void main(String[] args) {
        Check check = new Check();
        ThreadMXBean meter = (ThreadMXBean) ManagementFactory.getThreadMXBean();
        long self = Thread.currentThread().getId();
        new WeatherTeller();
        long start = meter.getThreadAllocatedBytes(self);
        WeatherTeller teller = new WeatherTeller();
        long made = meter.getThreadAllocatedBytes(self) - start;
        check.isTrue("a new object makes " + made + " bytes", made < OBJECT_MOST);
        prepare(teller);
        start = meter.getThreadAllocatedBytes(self);
        for (int k = 0; k < 120; k++) {
            teller.put(0, 0, 0, 0, k % 8, 0);
            teller.tell(400 - k % 3);
            teller.count(3);
            teller.sign(100);
        }
        made = meter.getThreadAllocatedBytes(self) - start;
        check.isTrue("480 calls make " + made + " bytes", made < CALLS_MOST);
        check.end();
    }

    /** 432 FINDINGS, two thirds of them WARNINGS. */
    private static void prepare(WeatherTeller teller) {
        StringBuilder text = new StringBuilder("place a;place b;place c;place d;place e;place f;");
        for (int band = 0; band < 24; band++) {
            text.append("band ").append(band / 8).append(" w").append((char) ('a' + band)).append(" ");
            text.append(band % 8).append(" ").append(band % 8 + 1).append(band < 8 ? " 1;" : " 1 warn;");
        }
        Check.rules(teller, text.toString());
        for (int cell = 0; cell < 432; cell++) {
            int hour = cell % 24;
            teller.put(cell / 144, cell / 24 % 6, hour, hour, (cell / 24 + hour) % 8, 0);
        }
    }
}

import com.sun.management.ThreadMXBean;
import java.lang.management.ManagementFactory;

/** What 512 of the dearest calls make: nearly nothing beside what the constructor has made. */
public final class RoomTest {
    private static final int CALLS = 500;
    private static final long MOST_BYTES = 200_000;
    private static final Check check = new Check();
    private static final ThreadMXBean meter = (ThreadMXBean) ManagementFactory.getThreadMXBean();

    public static void main(String[] args) {
        // The first time loads classes, which is not the object's.
        useUp(new DialMenus());
        long before = meter.getCurrentThreadAllocatedBytes();
        DialMenus x = new DialMenus();
        long made = meter.getCurrentThreadAllocatedBytes() - before;
        check.holds("a new object takes " + made + " bytes", made < MOST_BYTES);
        before = meter.getCurrentThreadAllocatedBytes();
        useUp(x);
        long used = meter.getCurrentThreadAllocatedBytes() - before;
        check.holds("all calls together take " + used + " bytes", used < MOST_BYTES);
        System.out.println("a new object: " + made + " bytes; its calls: " + used + " bytes");
        check.end();
    }

    private static void useUp(DialMenus x) {
        Check.addNames(x, "a:1;b:2;c:3;d:4;e:5;f:6;g:7;h:8;i:9;j:9;k:9;l:9");
        Check.addNames(x, "m:1;n:1");
        Check.type(x, "2222222222");
        for (int call = 0; call < CALLS; call++) {
            x.build(2 + call % 3);
            x.use(call % 14, 1 + call % 99);
            x.tend(0);
            x.digest();
            x.name(13, 7);
            x.fault();
        }
        for (int call = 0; call < CALLS / 4; call++) {
            x.drop(0);
            Check.addNames(x, "a:1");
        }
    }
}

import java.lang.management.ManagementFactory;
import java.lang.reflect.Method;
import java.lang.reflect.Modifier;
import java.util.Random;

/** No call throws, whatever it is given and whenever, and none but work() and treasury() makes an object. */
final class RoomTest {
    private static final int[] EDGES = {Integer.MIN_VALUE, Integer.MIN_VALUE + 1, -65536, -1, 0, 1, 2, 3, 4, 5, 6, 7, 8, 9,
        12, 20, 21, 60, 96, 100, 255, 999, 9999, 99999, 65536, Integer.MAX_VALUE - 1, Integer.MAX_VALUE};

    public static void main(String[] args) throws Exception {
        anyArguments();
        room();
        Due.end();
    }

    private static void anyArguments() throws Exception {
        Random random = new Random(7);
        for (int run = 0; run < 400; run++) {
            PaidByTheUnborn x = run % 2 == 0 ? new PaidByTheUnborn() : Due.three();
            Method[] calls = PaidByTheUnborn.class.getDeclaredMethods();
            for (int k = 0; k < 420; k++) {
                Method m = calls[random.nextInt(calls.length)];
                if (!Modifier.isPublic(m.getModifiers())) continue;
                Object[] given = new Object[m.getParameterCount()];
                for (int p = 0; p < given.length; p++) given[p] = EDGES[random.nextInt(EDGES.length)];
                m.invoke(x, given);
            }
        }
    }

    private static void room() {
        com.sun.management.ThreadMXBean threads = (com.sun.management.ThreadMXBean) ManagementFactory.getThreadMXBean();
        PaidByTheUnborn x = Due.three();
        calls(x);
        long self = Thread.currentThread().getId();
        long ahead = threads.getThreadAllocatedBytes(self);
        for (int k = 0; k < 5; k++) calls(x);
        long behind = threads.getThreadAllocatedBytes(self);
        Due.holds("calls make no objects: " + (behind - ahead) + " bytes", behind - ahead < 4096);
        for (int k = 0; k < 100; k++) new PaidByTheUnborn();
        long then = threads.getThreadAllocatedBytes(self);
        Due.holds("a new object is small: " + (then - behind) / 100 + " bytes", (then - behind) / 100 < 12000);
    }

    private static void calls(PaidByTheUnborn x) {
        x.image();
        x.builds(0);
        x.years(1);
        x.debt(0, 5);
        x.rate(7);
        x.feed(9);
        x.back();
        x.familyOf(0, 4);
        x.workOf(3, 3);
        x.behind(0, 100, 2);
        x.all(100);
        x.solvent(0);
        for (int what = 0; what < 3; what++) x.first(what);
        for (int what = 0; what < 2; what++) {
            x.highest(0, 100, what);
            x.signature(3, what);
            x.births(0, 8, 3, 20, what);
            x.cheapest(100, what);
        }
        x.building(20, 999, 0);
        x.oneMore(50);
        x.share(3, 0);
        x.pulledDown(1, 0, 50);
        x.merger(0, 1, 50);
        x.bestMerger(50);
        x.child(0, 0);
        x.treaty(0, 1, 50);
        x.row(1);
        x.row(1);
        x.row(1);
        x.whoBuilt(0);
        x.judge(0);
        x.oldest(0);
        x.order(-1);
        x.jubilee(50);
        x.fair(0);
        x.peak(0, 50, 0);
        x.interest(0, 50);
        x.doubled(0);
        x.commonPay(50, 0);
        x.bestBirths(0, 50);
        x.lump(0, 1);
        x.crosses(0, 1);
        x.heir(0);
        x.rank(1);
        x.half();
        x.clear();
        x.lots(20, 1, 0);
        x.restore();
        x.count(5);
        x.treasury();
    }
}

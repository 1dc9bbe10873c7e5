import com.sun.management.ThreadMXBean;
import java.lang.management.ManagementFactory;
import java.util.NoSuchElementException;
import java.util.Random;

/** No call ever throws what the document does not want, and calls make no objects, however dear they are. */
public final class RoomTest {
    private static final Check CHECK = new Check();
    private static final int[] ODD = {Integer.MIN_VALUE, Integer.MIN_VALUE + 1, -1000000, -2, -1, 0, 1, 2, 3, 4, 5, 6, 7,
        8, 9, 10, 16, 31, 32, 33, 60, 61, 99, 100, 119, 120, 599, 600, 3839, 3840, 9999, 10000, 1 << 30, Integer.MAX_VALUE - 1,
        Integer.MAX_VALUE};
    private static final String FIVE = Check.stack("browned", -3, 9, -1, 30, -12)
        + "bars brown = 2 and take = 3; costs weight - take * 2;";

    public static void main(String[] args) {
        CHECK.promise(1, "no call throws by itself");
        for (int seed = 0; seed < 40; seed++) {
            hostile(new Random(seed), seed % 7);
        }
        room();
        CHECK.end();
    }

    private static void hostile(Random random, int cakes) {
        HotCakes x = new HotCakes();
        if (cakes < 6) {
            StringBuilder text = new StringBuilder();
            for (int i = 0; i < cakes; i++) {
                text.append("cake ").append((char) ('a' + i)).append(i % 2 == 0 ? " glazed" : " browned").append(" wide ")
                    .append(i * 5 % 7 + 1).append(" up;");
            }
            CHECK.due("griddle()", Check.griddle(x, text.append("bars weight = 4;").toString()), 0);
        }
        for (int call = 0; call < 512; call++) {
            try {
                all(x, random.nextInt(47), odd(random), odd(random), odd(random), odd(random), random);
            } catch (NoSuchElementException none) {
                CHECK.due("from rests alone", none.getStackTrace()[0].getMethodName().equals("rests"), true);
            }
        }
        CHECK.due("lives on", x.count(1) >= 1, true);
    }

    private static int odd(Random random) {
        return random.nextInt(3) == 0 ? random.nextInt(6) : ODD[random.nextInt(ODD.length)];
    }

    private static long all(HotCakes x, int which, int a, int b, int c, int d, Random random) {
        boolean so = random.nextBoolean();
        switch (which) {
            case 0: return x.feed(random.nextLong(), (long) a << 32 | b, random.nextLong() & 0x7f7f7f7f7f7f7f7fL);
            case 1: return random.nextInt(8) == 0 ? x.griddle() : 0;
            case 2: return x.plan();
            case 3: return x.wish();
            case 4: return x.cake(a, b);
            case 5: return x.there(a);
            case 6: return x.turn(a);
            case 7: return x.undo() ? 1 : 0;
            case 8: return x.can(a) ? 1 : 0;
            case 9: return x.cost(a);
            case 10: return x.served() ? 1 : 0;
            case 11: return x.judged(a);
            case 12: return x.least();
            case 13: return x.row(a);
            case 14: return x.ways();
            case 15: return x.cheap();
            case 16: return x.bill(a);
            case 17: return x.without(a);
            case 18: return x.needed();
            case 19: return x.far();
            case 20: return x.toward();
            case 21: return x.never();
            case 22: return x.hard(a);
            case 23: return x.spread(a);
            case 24: return x.dear();
            case 25: return x.rim();
            default: return more(x, which, a, b, c, d, so);
        }
    }

    private static long more(HotCakes x, int which, int a, int b, int c, int d, boolean so) {
        switch (which) {
            case 26: return x.nth();
            case 27: return x.ring(a, b);
            case 28: return x.pairs();
            case 29: return x.reached(a);
            case 30: return x.gaps();
            case 31: return x.sharp() ? 1 : 0;
            case 32: return x.again();
            case 33: return x.spare();
            case 34: return x.ends() ? 1 : 0;
            case 35: return x.wins(a);
            case 36: return x.his();
            case 37: return x.see(a, b, so) ? 1 : 0;
            case 38: return x.lies(a, so) ? 1 : 0;
            case 39: return x.fit();
            case 40: return x.look();
            case 41: return x.chance(a, so);
            case 42: return x.rests(a, b, c, d);
            case 43: return x.mornings(a, b, c);
            case 44: return x.mark(a, so) ? 1 : 0;
            default: return x.count(a);
        }
    }

    private static void room() {
        CHECK.promise(1, "the room");
        ThreadMXBean threads = (ThreadMXBean) ManagementFactory.getThreadMXBean();
        HotCakes x = new HotCakes();
        long before = threads.getCurrentThreadAllocatedBytes();
        x = new HotCakes();
        long made = threads.getCurrentThreadAllocatedBytes() - before;
        CHECK.due("a new object takes less than 100,000 fields and elements: bytes " + made, made < 400000, true);
        CHECK.due("griddle", Check.griddle(x, FIVE), 0);
        before = threads.getCurrentThreadAllocatedBytes();
        long sum = 0;
        for (int call = 0; call < 480; call++) {
            int which = call % 46;
            boolean dear = which != 0 && which != 1 && which != 42;
            sum += dear ? all(x, which, call % 5 + 1, 1, 1, 1, FIXED) : 0;
        }
        made = threads.getCurrentThreadAllocatedBytes() - before;
        CHECK.due("480 calls make no rows of their own: bytes " + made + ", sum " + sum, made < 20000, true);
    }

    private static final Random FIXED = new Random(1);
}

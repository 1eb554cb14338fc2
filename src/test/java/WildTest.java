import com.sun.management.ThreadMXBean;
import java.lang.management.ManagementFactory;
import java.util.Random;

/** Any numbers in any state: no call throws, and none takes room. */
public final class WildTest {
    private static final int[] EDGES = {Integer.MIN_VALUE, Integer.MIN_VALUE + 1, -65536, -3, -2, -1, 0, 1, 2, 3, 4, 5, 6, 7, 8, 9, 10,
        11, 12, 13, 14, 20, 24, 25, 31, 127, 128, 129, 131, 255, 256, 300, 8191, 8192, 1594322, 1594323, 65536, 1220703124,
        1220703125, Integer.MAX_VALUE - 1, Integer.MAX_VALUE};
    private static final int[][] WORLDS = {{2, 2}, {2, 7}, {2, 131}, {3, 10}, {3, 86}, {5, 7}, {5, 131}};
    private static Random random;

    public static void main(String[] args) {
        ThreadMXBean beans = (ThreadMXBean) ManagementFactory.getThreadMXBean();
        long self = Thread.currentThread().getId();
        Due.due("what loads the classes", new PowersForTimes().count(0), 2);
        long before = beans.getThreadAllocatedBytes(self);
        PowersForTimes first = new PowersForTimes();
        long made = beans.getThreadAllocatedBytes(self) - before;
        Due.holds("an object takes " + made + " bytes, below 200000:", made < 200000);
        Due.due("count(0)", first.count(0), 2);
        for (int seed = 0; seed < 600; seed++) {
            random = new Random(seed);
            PowersForTimes x = new PowersForTimes();
            before = beans.getThreadAllocatedBytes(self);
            for (int i = 0; i < 512; i++) {
                one(x);
            }
            long taken = beans.getThreadAllocatedBytes(self) - before;
            // one room for a whole run is some 40 million bytes: some twenty objects, used up, must find room in it
            Due.holds(seed + ": 512 calls take " + taken + " bytes, below 2000000:", taken < 2000000);
        }
        Due.finish();
    }

    private static int any() {
        int how = random.nextInt(8);
        return how == 0 ? random.nextInt() : how < 3 ? EDGES[random.nextInt(EDGES.length)] : random.nextInt(12) - 1;
    }

    private static void one(PowersForTimes x) {
        if (random.nextInt(40) == 0) {
            int[] w = WORLDS[random.nextInt(WORLDS.length)];
            x.world(w[0], w[1]);
        }
        switch (random.nextInt(35)) {
            case 0 -> x.world(any(), any());
            case 1 -> x.work(any(), any(), any());
            case 2 -> x.poly(any(), any(), any());
            case 3, 4 -> x.module(any(), any(), any(), any());
            case 5, 6 -> x.map(any(), any(), any());
            case 7 -> x.feed(any(), any(), any(), any(), any());
            case 8 -> x.feed(0x6d617020, 0x282d742b, 0x31295e33, 0x2a323b20, 0x6d617020);
            case 9 -> x.end(any());
            case 10 -> x.end(15);
            case 11 -> x.text();
            case 12 -> x.fault(any());
            case 13 -> x.told(any());
            case 14 -> x.of(random.nextBoolean(), any(), any());
            case 15 -> x.act(any(), any(), any());
            case 16 -> x.acts(any(), any(), any());
            case 17 -> x.send(any(), any());
            case 18 -> x.noughts(any(), any(), any());
            case 19 -> x.about(any(), any());
            case 20 -> x.parts(any(), any());
            case 21 -> x.great(any(), any());
            case 22 -> x.leads(any(), any(), any());
            case 23 -> x.dual(any(), any(), any());
            case 24 -> x.made(any(), any());
            case 25 -> x.ends(any(), any());
            case 26 -> x.alike(any(), any());
            case 27 -> x.classes(any(), any());
            case 28 -> x.greatest(any());
            case 29 -> x.sums(any(), any());
            case 30 -> x.symbol(any(), any());
            case 31 -> x.factors(any(), any());
            case 32 -> x.undo();
            case 33 -> x.redo();
            default -> {
                if (random.nextInt(4) == 0) {
                    x.image();
                } else {
                    x.back();
                }
                x.count(any());
            }
        }
    }
}

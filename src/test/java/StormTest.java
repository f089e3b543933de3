import java.lang.management.ManagementFactory;
import java.util.Random;

/**
 * Calls with any arguments in any state: none throws, none takes long, and the calls
 * make no objects, as all of a run live in one room.
 */
public final class StormTest {
    private static final int[] EDGES = {Integer.MIN_VALUE, Integer.MIN_VALUE + 1, -1000, -12, -11, -3, -2, -1, 0, 1, 2, 3,
        4, 5, 6, 7, 8, 9, 10, 11, 12, 13, 19, 30, 59, 60, 61, 99, 100, 255, 256, 299, 300, 4095, 4096, Integer.MAX_VALUE};
    private static final Due DUE = new Due();
    private static long sum;

    public static void main(String[] args) {
        for (int run = 0; run < 300; run++) {
            storm(new Random(run));
        }
        room();
        DUE.end("StormTest");
    }

    private static int any(Random random) {
        int pick = random.nextInt(10);
        return pick == 0 ? random.nextInt() : pick < 4 ? EDGES[random.nextInt(EDGES.length)] : random.nextInt(8) - 1;
    }

    private static void storm(Random random) {
        MayNotPause x = new MayNotPause();
        StringBuilder calls = new StringBuilder();
        try {
            for (int k = 0; k < 512; k++) {
                int which = random.nextInt(31);
                calls.append(' ').append(which);
                sum += call(x, which, random);
            }
        } catch (RuntimeException e) {
            DUE.holds("no call throws: " + e + calls, false);
        }
        DUE.holds("a run", true);
    }

    private static long call(MayNotPause x, int which, Random r) {
        switch (which) {
            case 0: return x.type(any(r), any(r));
            case 1: return r.nextInt(9) == 0 ? x.wipe(any(r)) : 0;
            case 2: return x.undo(any(r));
            case 3: return x.fault(any(r));
            case 4: return x.set(any(r), any(r));
            case 5: return x.verse(any(r), any(r));
            case 6: return x.when(any(r), any(r));
            case 7: return x.poem(any(r));
            case 8: return x.judged();
            case 9: return x.rest(any(r));
            case 10: return x.doing(any(r), any(r));
            case 11: return x.put(any(r));
            case 12: return x.order(any(r));
            case 13: return x.lead();
            case 14: return x.odds(any(r));
            case 15: return x.drawn(any(r));
            case 16: return x.line(any(r), any(r));
            case 17: return x.seen(any(r), any(r));
            case 18: return x.forget();
            case 19: return x.leads();
            case 20: return x.read(any(r));
            case 21: return x.sheet(any(r), any(r), any(r));
            case 22: return r.nextInt(9) == 0 ? x.lose(any(r)) : 0;
            case 23: return x.lay(any(r), any(r), any(r), any(r));
            case 24: return x.get(any(r), any(r), any(r));
            case 25: return x.copy(any(r), any(r), any(r), any(r), any(r));
            case 26: return x.write(any(r));
            case 27: return x.count(any(r));
            case 28: return r.nextInt(9) == 0 ? x.digest() : 0;
            default: return typeVerse(x, r);
        }
    }

    private static long typeVerse(MayNotPause x, Random r) {
        int text = r.nextInt(3) / 2;
        if (x.count(2 + text) > 0) {
            x.type(text, ';');
        }
        x.type(text, "pclr".charAt(r.nextInt(4)));
        x.type(text, '0' + r.nextInt(10));
        x.type(text, '1' + r.nextInt(9));
        return x.type(text, '0' + r.nextInt(10));
    }

    private static void room() {
        MayNotPause x = Due.with("p911;c911;l911;r911;p911;c911;l911;r911;p911;c911;l911;r911", "p010;c010;l010;r010");
        com.sun.management.ThreadMXBean counter = (com.sun.management.ThreadMXBean) ManagementFactory.getThreadMXBean();
        sum += x.digest() + counter.getCurrentThreadAllocatedBytes();
        long before = counter.getCurrentThreadAllocatedBytes();
        for (int k = 0; k < 200; k++) {
            x.set(0, k % 100);
            sum += x.digest() + x.sheet(k % 4, k % 3, 60) + x.read(k % 4) + x.write(k % 4) + x.copy(0, 0, 0, 1, 9);
        }
        long made = counter.getCurrentThreadAllocatedBytes() - before;
        DUE.holds("600 calls made " + made + " bytes of objects", made < 4096);
    }
}

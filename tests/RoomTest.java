import com.sun.management.ThreadMXBean;
import java.lang.management.ManagementFactory;

/** No call makes an object or an array: what a run takes is what its constructors take. */
public final class RoomTest {
    private static final ThreadMXBean THREADS = (ThreadMXBean) ManagementFactory.getThreadMXBean();
    private static final String[] WORKS = {
        "tie0:aeio;tie1:abba;storm0;fast0/0;give0/0>2", "tie3:anna;storm3;storm3;storm3;cut3/0", "cut4/0"};

    private static long taken() {
        return THREADS.getThreadAllocatedBytes(Thread.currentThread().getId());
    }

    private static void type(BeltKnots x, String text) {
        for (int i = 0; i < text.length(); i++) {
            x.append(text.charAt(i));
        }
    }

    private static long allCalls(BeltKnots x, int round) {
        long sum = 0;
        type(x, WORKS[round % WORKS.length]);
        sum += x.firstError() + x.work() + x.stopped(0) + x.keep() + x.belt(0, 120) + x.set(0, 1 + round % 9);
        type(x, "apeio");
        sum += x.whyNot(4) + x.bestBelt() + x.find() + x.tie(4) + x.storm(4) + x.fast(4, 0) + x.knot(4, 0, 0, 1);
        sum += x.noGift(4, 0, 3) + x.ifStorm(4, 1) + x.name(4, 0, 4) + x.fisher(4, 2) + x.told(4, 3);
        sum += x.drowned(0, 0) + x.letter(0, 5) + x.count(10) + x.digest() + (long) x.trueShare();
        sum += x.cut(4, 0) + x.undo() + x.restore() + x.clearBuffer();
        return sum;
    }

    public static void main(String[] args) {
        BeltKnots[] objects = new BeltKnots[101];
        for (int i = 0; i < objects.length; i++) {
            objects[i] = new BeltKnots();
        }
        // the first time round the machine itself makes what it needs: constants, and what taken() uses
        long sum = taken();
        for (int round = 0; round < WORKS.length; round++) {
            sum += allCalls(objects[0], round);
        }
        long before = taken();
        for (int i = 0; i < 300; i++) {
            sum += allCalls(objects[1 + i / 3], i % 3);
        }
        long calls = taken() - before;
        before = taken();
        sum += new BeltKnots().count(0);
        long constructor = taken() - before;
        // 512 new objects are the most that one run can ask for: 8 bytes for each of 7.3 million elements
        // the machine may make a little of its own; the least object, in each round, takes 16 bytes
        boolean fits = calls < 300 * 16 && constructor * 512 < 7_300_000L * 8;
        System.out.println("bytes by calls: " + calls + ", by a constructor: " + constructor + " (" + sum + ")");
        System.exit(fits ? 0 : 1);
    }
}

import com.sun.management.ThreadMXBean;
import java.lang.management.ManagementFactory;
import java.util.NoSuchElementException;

/** What a run of calls makes stays small: all that is made, is made with the object. */
public final class RoomTest {
    private static final long MOST_BYTES_NEW = 20_000;
    private static final long MOST_BYTES_CALLS = 100_000;

    public static void main(String[] args) {
        ThreadMXBean threads = (ThreadMXBean) ManagementFactory.getThreadMXBean();
        long id = Thread.currentThread().getId();
        use(new TripleSieve());
        long start = threads.getThreadAllocatedBytes(id);
        TripleSieve x = new TripleSieve();
        long made = threads.getThreadAllocatedBytes(id);
        use(x);
        long used = threads.getThreadAllocatedBytes(id);
        System.out.println("a new object has " + (made - start) + " bytes, its calls made " + (used - made));
        if (made - start > MOST_BYTES_NEW || used - made > MOST_BYTES_CALLS) {
            System.out.println("that is too much");
            System.exit(1);
        }
    }

    /** Some 500 calls, every one of the face among them, most of them with 48 KEYS. */
    private static long use(TripleSieve x) {
        long sum = 0;
        for (int k = 0; k < 48; k++) {
            sum += x.add(k * 17L, k % 16);
        }
        for (int i = 0; i < 11; i++) {
            x.set(1, 14 + i);
            x.set(6, i % 3);
            sum += x.mend(-1) + x.mend(0) + x.tight() + x.peels(200) + x.build(99) + x.rank() + x.twins();
            sum += x.peel(0, 0) + x.core(-1) + x.level(-1) + x.wake(3, 1) + x.load(3) + x.count(9) + x.right();
            sum += x.strangers(0, 1000, -1) + x.told(4) + x.built(0) + x.filled(0, true) + x.unlike(0);
            sum += (x.passes(3) ? 1 : 0) + (x.shelf(i % 2, false) ? 1 : 0) + (x.shelf(i % 2, true) ? 1 : 0);
            sum += x.gone(17) + x.undo() + x.turn(1, 3) + x.worth(2) + x.hash(1, 2) + x.cell(1, 2) + x.print(3);
            sum += x.feed(0x6B657920, 0x31202020, 0x20202020, 0x20202020, 0x2020203B) + (x.end(19) ? 1 : 0) + x.text();
            try {
                sum += x.key(48);
            } catch (NoSuchElementException e) {
                sum++;
            }
        }
        return sum;
    }
}

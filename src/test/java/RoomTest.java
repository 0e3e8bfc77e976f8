import com.sun.management.ThreadMXBean;
import java.lang.management.ManagementFactory;

/** An object makes its rows when it is made; 512 of the dearest calls make none. */
public final class RoomTest {
    /** Some 9,000 elements of at most 8 bytes. */
    private static final long MOST_BYTES_OF_AN_OBJECT = 9000 * 8;

    public static void main(String[] args) {
        ThreadMXBean thread = (ThreadMXBean) ManagementFactory.getThreadMXBean();
        calls(new AimFronts());
        thread.getCurrentThreadAllocatedBytes();
        long start = thread.getCurrentThreadAllocatedBytes();
        AimFronts x = new AimFronts();
        long made = thread.getCurrentThreadAllocatedBytes();
        calls(x);
        long end = thread.getCurrentThreadAllocatedBytes();
        Check.holds("an object of " + (made - start) + " bytes", made - start <= MOST_BYTES_OF_AN_OBJECT);
        Check.holds("calls that take " + (end - made) + " bytes", end - made < 1000);
        Check.end();
    }

    /** 7 rounds of 70 calls, each round with the greatest front, the greatest cover, the most boxes. */
    private static void calls(AimFronts x) {
        for (int round = 0; round < 7; round++) {
            x.clear();
            x.column(-20, 20);
            x.column(-20, 20);
            for (int a = 0; a < 4; a++) {
                x.aim();
                x.cost(a, a / 2, a % 2 == 0 ? 9 : -9);
            }
            x.run(12);
            for (int i = 0; i < 10; i++) {
                x.boxes();
                x.box(i, 3);
                x.volume();
            }
            x.run(88);
            for (int d = 0; d < 10; d++) {
                x.cover(d);
            }
            x.run(2000);
            for (int i = 0; i < 2; i++) {
                x.knee(i);
                x.weighted(1, 2, 3, 4);
                x.first(3, 2, 1, 0);
                x.under(0, 0, 0, 0);
                x.plan(1680, 1);
                x.climb(1680);
                x.ideal(3);
                x.nadir(3);
            }
        }
    }
}

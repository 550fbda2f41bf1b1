import com.sun.management.ThreadMXBean;
import java.lang.management.ManagementFactory;

/** All calls of a run live in one room: after an object is made, no call makes another. */
public final class RoomTest {
    private static final Due due = new Due();

    public static void main(String[] args) {
        ThreadMXBean threads = (ThreadMXBean) ManagementFactory.getThreadMXBean();
        long me = Thread.currentThread().getId();
        // The first times round the machine itself may load and make what it needs.
        for (int i = 0; i < 3; i++) {
            callAll(Due.under("111223;9"));
        }
        long least = Long.MAX_VALUE;
        for (int i = 0; i < 5; i++) {
            BurntLetters x = Due.under("111223;9");
            long before = threads.getThreadAllocatedBytes(me);
            callAll(x);
            least = Math.min(least, threads.getThreadAllocatedBytes(me) - before);
        }
        due.isTrue("bytes made by the calls: " + least, least < 1000);
        due.end();
    }

    private static long callAll(BurntLetters x) {
        long sum = 0;
        for (int kind = 0; kind < 5; kind++) {
            sum += x.file(kind, kind) + x.copy(kind, kind + 1) + x.point(kind, (kind + 1) % 5);
        }
        for (int year = 0; year < 5; year++) {
            sum += x.ashes(year == 4 ? 31 : -1);
        }
        sum += x.rename(0, 0, 5) + x.image() + x.fault() + x.nowhere() + x.moving(1) + x.sure(4, 4, 1);
        for (int file = 0; file < 5; file++) {
            sum += x.odds(file, 4, 0) + x.where(file, 4) + x.about(file, 1) + x.as(file, 3) + x.burnt(file);
        }
        sum += x.fits() + x.years(60, 7, 1) + x.burn(2) + x.digest() + x.restore() + x.forget();
        return sum + x.letter(49) + x.law() + x.blank() + x.count(3) + x.under(1, 1);
    }
}

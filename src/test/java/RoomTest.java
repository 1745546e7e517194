import com.sun.management.ThreadMXBean;
import java.lang.management.ManagementFactory;

/** The room of a run: a new object is small, and no call makes an object. */
public final class RoomTest {
    public static void main(String[] args) {
        ThreadMXBean room = (ThreadMXBean) ManagementFactory.getThreadMXBean();
        long self = Thread.currentThread().getId();
        use(new DeedDesk(), 3);
        long before = room.getThreadAllocatedBytes(self);
        DeedDesk x = new DeedDesk();
        long made = room.getThreadAllocatedBytes(self);
        use(x, 3);
        long used = room.getThreadAllocatedBytes(self);
        Check.holds("an object takes " + (made - before) + " bytes", made - before < 8000);
        Check.holds("its calls take " + (used - made) + " bytes", used - made < 2000);
        Check.end();
    }

    private static void use(DeedDesk x, int times) {
        for (int k = 0; k < times; k++) {
            x.make(k);
            for (int find = 0; find < 16; find++) {
                x.found(find, true);
                x.denied(find);
                x.next();
            }
            for (int who = 0; who < 4; who++) {
                x.with(who);
                x.claim(who);
                x.way(who, 1, 9);
            }
            x.clear();
            x.sheet(0, 1, 60);
            for (int i = 0; i < 60; i++) {
                x.item(0, 1, i, i % 5 == 0 ? 4 : 0);
            }
            x.finds(0, 1, 0, 12);
            x.fewest();
            x.least();
            x.doer();
            x.drop(0);
        }
    }
}

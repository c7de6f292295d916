import com.sun.management.ThreadMXBean;
import java.lang.management.ManagementFactory;

/** All calls of a run live in one room: no call is to make objects. */
public final class RoomTest {
    private static final Due DUE = new Due("RoomTest");
    private static final int CALLS = 512;
    private static final int KINDS = 38;
    private static final ThreadMXBean THREADS = (ThreadMXBean) ManagementFactory.getThreadMXBean();

    public static void main(String[] args) {
        DUE.part("objects");
        for (int which = 0; which < KINDS; which++) {
            made(full(), which, 2);
            long bytes = made(full(), which, CALLS);
            // the machine itself may make an object now and then, but not one a call
            DUE.holds("bytes made by calls " + which + ": " + bytes, bytes < CALLS * 8);
        }
        DUE.part("a new object");
        long before = THREADS.getThreadAllocatedBytes(Thread.currentThread().getId());
        SqueakShop last = null;
        for (int i = 0; i < 100; i++) {
            last = new SqueakShop();
        }
        long bytes = THREADS.getThreadAllocatedBytes(Thread.currentThread().getId()) - before;
        DUE.holds("bytes of 100 objects: " + bytes, bytes < 100 * 30000 && last.count(0) == 0);
        DUE.end();
    }

    private static SqueakShop full() {
        SqueakShop x = new SqueakShop();
        for (int i = 0; i < 6; i++) {
            x.sound(i + 1, i, 40 + 9 * i, i % 5);
        }
        Due.street(x, "wall 1;calm 0;wear 0;loud 9 (((s<9)))&h<9;loud 9 l=1|k<3&v>2;soft 9 !(!(!(!h=3)))");
        for (int i = 0; i < 5; i++) {
            x.see(i, 500, 20);
        }
        for (int i = 0; i < 10; i++) {
            x.plan(0, 0);
        }
        for (int i = 0; i < 4; i++) {
            x.tape(i, 0, 60);
        }
        return x;
    }

    private static long made(SqueakShop x, int which, int calls) {
        long before = THREADS.getThreadAllocatedBytes(Thread.currentThread().getId());
        for (int i = 0; i < calls; i++) {
            call(x, which, i);
        }
        return THREADS.getThreadAllocatedBytes(Thread.currentThread().getId()) - before;
    }

    private static long call(SqueakShop x, int which, int i) {
        switch (which) {
            case 0: return x.sound(0, 0, 0, 0);
            case 1: return x.of(i % 6, 10 + i % 15);
            case 2: return x.set(i % 6, i % 100);
            case 3: return x.pass(i % 6, i % 5);
            case 4: return x.lose(i % 6);
            case 5: return x.find(i % 6, i % 5);
            case 6: return x.row(5, i % 4, i % 10);
            case 7: return x.feed("wall 5;loud 1 s=1".charAt(i % 17));
            case 8: return i % 3 == 0 ? x.street() : x.feed('l');
            case 9: return x.told(i % 15);
            case 10: return x.years(i % 61);
            case 11: return x.on(60, i % 26);
            case 12: return x.when(i % 2, i % 6);
            case 13: return x.home(i % 6);
            case 14: return x.shared(i % 16);
            case 15: return x.best(i % 2);
            case 16: return x.fewest(i % 4 - 1);
            case 17: return x.see(i % 5, i, i % 21);
            case 18: return x.louds(i % 6, i % 2);
            case 19: return x.can(i % 6, i % 2);
            case 20: return x.where(i % 6);
            case 21: return x.odds(i % 5, i % 2);
            case 22: return x.mean(60, i % 2);
            case 23: return x.plan(i % 5 - 1, i % 6);
            case 24: return x.ends(i % 2);
            case 25: return x.book(i % 7 - 1, i % 6);
            case 26: return x.looked();
            case 27: return x.judge(i % 6, i % 60);
            case 28: return x.image();
            case 29: return i % 2 == 0 ? x.image() : x.undo();
            case 30: return x.act(i % 6, i % 3, i);
            case 31: return x.trace(i % 20);
            case 32: return x.taken(i % 6, i % 7);
            case 33: return x.count(i % 7);
            case 34: return x.tape(i % 6, i % 6 - 1, i % 61);
            case 35: return x.item(i % 6, i % 60, i);
            case 36: return x.read(i % 6, i % 60);
            default: return x.shift(i % 4, i % 10, (i + 1) % 4, i % 10, 30);
        }
    }
}

import java.lang.management.ManagementFactory;

/** All calls of one run share one room, so a call makes no object: only the constructor does. */
public final class RoomTest {
    private static final long NOISE = 20_000;

    private RoomTest() {
    }

    public static void main(String[] args) {
        com.sun.management.ThreadMXBean memory =
                (com.sun.management.ThreadMXBean) ManagementFactory.getThreadMXBean();
        Check c = new Check("RoomTest");
        work(new WalkFrames());
        long id = Thread.currentThread().getId();
        long start = memory.getThreadAllocatedBytes(id);
        WalkFrames x = new WalkFrames();
        long made = memory.getThreadAllocatedBytes(id);
        work(x);
        long worked = memory.getThreadAllocatedBytes(id);
        c.due("bytes of a new object below 200,000", made - start < 200_000 ? 0 : made - start, 0);
        c.due("bytes of 500 calls", worked - made < NOISE ? 0 : worked - made, 0);
        c.end();
    }

    /** Some 500 calls, each method among them. */
    private static void work(WalkFrames x) {
        for (int i = 0; i < 15; i++) {
            x.post(i * 5, i % 2, 8);
            x.set(8, i % 3);
            x.set(i % 8, 2 + i);
            x.hour();
            x.assign(i % 8, i % 6);
            x.goOut(i % 6);
            x.comeBack(i % 6);
            x.setRange(i, 3 * i, i % 8);
            x.take(i % 2);
            x.restore(0);
            x.undo();
            x.append(48);
            x.append(45);
            x.append(57);
            x.append(61);
            x.append(49);
            x.setRanges();
            x.append(70);
            x.setRanges();
            x.clearText();
            x.clearIn();
            x.wouldOverflow(i % 3);
            x.bestCarrier(i % 8);
            x.wouldDeliver(i % 6);
            x.count(i);
            x.letter(i, i % 9);
            x.frame(i % 8, i % 5);
            x.carrier(i % 6, i % 4);
            x.rounds(i % 6, i % 8);
            x.stretch(i, i % 3);
            x.inBag(i);
            x.inFrame(i % 8, i % 3);
        }
    }
}

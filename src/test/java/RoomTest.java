import java.lang.management.ManagementFactory;

/** All calls of a run live in one room, so a call makes next to nothing once its object stands; and the dearest calls end soon. */
public final class RoomTest {
    private static final com.sun.management.ThreadMXBean THREADS = (com.sun.management.ThreadMXBean) ManagementFactory.getThreadMXBean();
    private static final String NINE = "part a box 0 0 0 1 1 1;part b box 2 0 1 1 1 1;part c box 4 0 2 1 1 1;part d box 0 2 3 1 1 1;part e box 2 2 0 1 1 1;"
            + "part f box 4 2 1 1 1 1;part g box 0 4 2 1 1 1;part h box 2 4 3 1 1 1;part i box 4 4 0 2 2 2;";
    private static int wrong = 0;
    private static long sink = 0;

    private static void atMost(String what, long got, long most) {
        System.out.println(what + ": " + got + " (at most " + most + ")");
        wrong += got > most ? 1 : 0;
    }

    private static long made() {
        return THREADS.getThreadAllocatedBytes(Thread.currentThread().getId());
    }

    private static void everyCall(HandsOrder x) {
        sink += x.fault(0) + x.cell(0, 0, 0) + x.bars(0, 0) + x.cut(511, 1, 0) + x.heap(511, 3) + x.net(0) + x.plan(7, 1) + x.ring(511, 0, 0);
        sink += x.missing(0) + x.down(8) + x.inOne(0, 1, 1) + x.view(511, 3, 6) + x.moves(511, 5) + x.apart(1, 5) + x.where(3) + x.together();
        sink += x.safe(0) + x.safe(2) + x.safeCut(511, 9, 4) + x.holding(511) + x.oneByOne(511) + x.record() + x.judged(0);
        sink += x.pull(511, 256, 0, 1) + x.like(0, 8, 3) + x.mirrored(8, 0) + x.minutes(511, 1, 5) + x.time(511, 0) + x.time(511, 1);
        sink += (x.price(6, (int) (sink & 63)) ? 1 : 0) + (x.bent(0, (sink & 1) == 0) ? 1 : 0) + (x.swollen(0, 0, (sink & 2) == 0) ? 1 : 0);
    }

    public static void main(String[] args) {
        HandsOrder x = new HandsOrder();
        Told.tell(x, NINE);
        x.thing();
        everyCall(x);
        long before = made();
        HandsOrder y = new HandsOrder();
        atMost("bytes of a new object", made() - before, 64_000);
        before = made();
        Told.tell(y, NINE);
        sink += y.thing();
        everyCall(y);
        atMost("bytes of one call of each kind", made() - before, 4_000);
        before = made();
        long start = System.nanoTime();
        for (int k = 0; k < 50; k++) {
            everyCall(y);
        }
        atMost("bytes of fifty calls of each kind", made() - before, 2_000);
        atMost("their milliseconds", (System.nanoTime() - start) / 1_000_000, 60_000);
        System.out.println(sink == 42 ? "" : "the room is kept");
        System.exit(wrong == 0 ? 0 : 1);
    }
}

import java.lang.management.ManagementFactory;

/** A whole life of an object stays far within the room: what it needs is made with it and used again. */
public final class RoomTest {
    private static final Check check = new Check("RoomTest");
    private static final long MOST_BYTES_OF_AN_OBJECT = 60_000;
    private static final com.sun.management.ThreadMXBean meter =
        (com.sun.management.ThreadMXBean) ManagementFactory.getThreadMXBean();

    public static void main(String[] args) {
        long ignored = useAll(new CubeHeaps());
        long start = allocated();
        CubeHeaps x = new CubeHeaps();
        long made = allocated();
        ignored += useAll(x);
        long used = allocated();
        check.holds("an object is small, it has " + (made - start) + " bytes",
            made - start < MOST_BYTES_OF_AN_OBJECT);
        check.holds("calls make next to nothing, they made " + (used - made) + " bytes", used - made < 1000);
        check.holds("the calls answered", ignored != 0);
        check.end();
    }

    private static long allocated() {
        return meter.getThreadAllocatedBytes(Thread.currentThread().getId());
    }

    private static long useAll(CubeHeaps x) {
        long answers = x.ground(5, 5);
        for (int cell = 0; cell < 25; cell++) answers += x.set(0, cell, cell * 7 % 5) + x.set(1, 24 - cell, cell * 7 % 5);
        for (int i = 0; i < 12; i++) {
            answers += x.copy(0, 2) + x.cubes(0) + x.front(0, 1) + x.side(0, 1) + x.sum(0, true, 1);
            answers += x.seen(0, i % 4, 1) + x.skin(0) + x.layer(0, 1 + i % 4, true) + x.layer(0, 2, false);
            answers += x.water(0) + x.level(0, 12) + x.tellAs(0, i % 2 == 0) + x.tell(true, 0, 4) + x.tellTop(i, -9);
            answers += x.fits(0) + x.heaps() + x.with(i, 2) + x.span(i, true) + x.count(true) + x.count(false);
            answers += x.place(0) + x.lay(3, i) + x.sumsAs(0) + x.tellSum(true, 0, 5) + x.bySums();
            answers += x.sumsAs(1) + x.laySums(3) + x.spanSums(i, false) + x.carry(0, 1) + x.turn(2, i % 8);
            answers += x.alike(0, 2) + x.same(2) + x.least(2) + x.about(2) + x.height(0, i);
        }
        return answers;
    }
}

import java.lang.management.ManagementFactory;

/** All calls of a run live in one room: the calls make nothing, and an object is small. */
public final class RoomTest {
    private static final int NONE = -9;

    public static void main(String[] args) {
        com.sun.management.ThreadMXBean threads =
            (com.sun.management.ThreadMXBean) ManagementFactory.getThreadMXBean();
        dearest(fullTown());
        long before = threads.getCurrentThreadAllocatedBytes();
        TuneToEachHouse x = new TuneToEachHouse();
        long made = threads.getCurrentThreadAllocatedBytes() - before;
        Check.isTrue("an object takes " + made + " bytes", made < 100_000);

        x = fullTown();
        before = threads.getCurrentThreadAllocatedBytes();
        for (int i = 0; i < 20; i++) {
            dearest(x);
        }
        made = threads.getCurrentThreadAllocatedBytes() - before;
        Check.isTrue("the calls make " + made + " bytes", made < 10_000);
        Check.end("RoomTest");
    }

    private static TuneToEachHouse fullTown() {
        TuneToEachHouse x = Check.townOf("DaaaaaaaaaaaaSaaaaaaS......SgSababab");
        SongsTest.joinAll(x);
        Check.hear(x, 8, 8, 8, 8, 8, 8, 8, 8, 8, 8, 8, 8);
        return x;
    }

    /** The calls that do most, in the town where they do most. */
    private static void dearest(TuneToEachHouse x) {
        x.fault();
        x.keep(0);
        x.town();
        x.again(0);
        x.ways(0, NONE, NONE);
        x.first(0, 5);
        x.begun(0);
        x.roundAt(3, 0, 11, 1);
        x.safe(3, 0, 11, 12);
        x.both(0, 1);
        x.mayBe(6);
        x.fitting();
        x.parted(false);
        x.parted(true);
        x.best(3, 0);
        x.bestAt(3, 0, 11);
        x.hush(0, NONE);
    }
}

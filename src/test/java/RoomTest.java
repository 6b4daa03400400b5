import java.lang.management.ManagementFactory;

/** All calls of a run live in one room: what an object needs is made with it, and no call makes anything more. */
public final class RoomTest {
    private static final String FULL = "ticks near(weight*trod)of 10+if cups stair=1 or not late<5 then way else who end;"
        + "hears near stair of 4;" + "up 1 by 0;down 1 by 0;".repeat(4) + "hour 60;hang 3;";
    private static long sum = 0;

    public static void main(String[] args) {
        com.sun.management.ThreadMXBean threads = (com.sun.management.ThreadMXBean) ManagementFactory.getThreadMXBean();
        long id = Thread.currentThread().getId();
        Due due = new Due();
        StairRods x = settled();
        everyCall(x);
        x = settled();
        long before = threads.getThreadAllocatedBytes(id);
        for (int i = 0; i < 4; i++) {
            everyCall(x);
        }
        long made = threads.getThreadAllocatedBytes(id) - before;
        due.that("calls make next to nothing: " + made + " bytes", made < 4096);
        before = threads.getThreadAllocatedBytes(id);
        x = new StairRods();
        made = threads.getThreadAllocatedBytes(id) - before + sum * 0;
        due.that("an object takes " + made + " bytes", made < 100000);
        due.finish("RoomTest");
    }

    private static StairRods settled() {
        StairRods x = new StairRods();
        for (int i = 0; i < 6; i++) {
            x.lodger(9 - i, 12 - i);
            x.print(i, 2 << i);
        }
        Due.text(x, FULL);
        Due.onTape(x, FULL);
        return x;
    }

    private static void everyCall(StairRods x) {
        sum += x.lodger(1, 1) + x.text() + x.fault(0) + x.feed(0x68616e67, 0x20333b68, 0x616e6720, 0x343b2020, 0x20202020);
        sum += x.end(20) + (x.by(0) ? 1 : 0) + x.tread(0, true, 1) + (x.hang(3, false) ? 1 : 0) + x.hour(60) + x.played(0);
        sum += x.nights(5, 40) + x.undo() + x.of(0, 0) + x.ticks(0, 1, true) + x.hears(1) + x.is(0) + x.book(0, 0);
        sum += x.foretold(60, 0, 0) + x.quiet(0, 0, 12, 0) + x.ways(0, 12) + x.unheard(0, 0, 12) + x.waysBy(0, 12, 6);
        sum += x.loudest(0) + x.heardOn(0, true) + x.cupRow() + (x.change(0, 0, 2) ? 1 : 0) + (x.sound(0, 0, 2) ? 1 : 0);
        sum += x.listen(1) + x.weighed() + x.mood(0, 0, true) + x.moods(0) + x.likeliest(0) + x.next(0, true) + x.code(12);
        sum += x.code(122) + x.clear() + x.doubt() + x.free() + x.reads(12122) + x.unread() + x.room(true);
        sum += (x.print(0, 14) ? 1 : 0) + x.enough(false) + x.fits(6, 2) + x.alone(0) + x.shared() + x.which();
        sum += (x.heavy(0, 9) ? 1 : 0) + x.cheapest(6) + x.said(0, 1, 5) + x.whose() + x.highest() + x.restless() + x.home();
        sum += x.doubles() + x.pause() + x.ledger(NONE) + x.image() + x.back() + x.about(0);
    }

    private static final int NONE = -1;
}

import java.lang.management.ManagementFactory;

/** All calls of a run live in one room: an object is small, and its calls make nothing. */
public final class RoomTest {
    private static final int OBJECTS = 200;
    private static final long MOST_FOR_OBJECT = 24_000;
    private static final long MOST_FOR_CALLS = 20_000;

    public static void main(String[] args) {
        Check check = new Check();
        com.sun.management.ThreadMXBean threads = (com.sun.management.ThreadMXBean) ManagementFactory.getThreadMXBean();
        long id = Thread.currentThread().getId();
        SurdDesk desk = new SurdDesk();
        use(desk);
        long before = threads.getThreadAllocatedBytes(id);
        for (int k = 0; k < OBJECTS; k++) {
            desk = new SurdDesk();
        }
        long between = threads.getThreadAllocatedBytes(id);
        for (int k = 0; k < 50; k++) {
            use(desk);
        }
        long after = threads.getThreadAllocatedBytes(id);
        check.due("bytes of an object " + (between - before) / OBJECTS, (between - before) / OBJECTS < MOST_FOR_OBJECT, true);
        check.due("bytes of calls " + (after - between), after - between < MOST_FOR_CALLS, true);
        check.end("RoomTest");
    }

    private static void use(SurdDesk x) {
        x.load(0, 0, 1);
        for (int p = 2; p < 20; p++) {
            x.load(1, p, 1);
            x.root(1, 1);
            x.reckon(p % 2, 0, 0, 1);
            x.reckon(2, 2, 0, 1);
            x.divide(3, 0, 1);
            x.compare(0, 2);
            x.floor(0);
            x.write(0, 80);
            x.octet(p);
            x.partial(0, 24);
            x.nearest(0);
            x.between(1, 0);
            x.term(0, 0, 0);
            x.terms(0);
            x.same(0, 2);
        }
    }
}

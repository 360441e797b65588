import java.lang.management.ManagementFactory;

/** The calls live in one room: a new object takes little of it, and the calls take none. */
public final class RoomTest {
    private static final com.sun.management.ThreadMXBean BEAN =
        (com.sun.management.ThreadMXBean) ManagementFactory.getThreadMXBean();
    private static final int CALLS = 512;
    // An int or a long takes at most eight bytes; some of it goes to the machine's own work of measuring.
    private static final long BYTES_OF_AN_OBJECT = 8 * 8000;
    private static final long BYTES_OF_THE_CALLS = 20_000;

    private static int sum = 0;

    public static void main(String[] args) {
        Due due = new Due();
        useAll(new ThreeStrandMaps(), 2);
        long before = BEAN.getCurrentThreadAllocatedBytes();
        ThreeStrandMaps maps = new ThreeStrandMaps();
        long made = BEAN.getCurrentThreadAllocatedBytes();
        useAll(maps, CALLS / 32);
        long used = BEAN.getCurrentThreadAllocatedBytes();
        System.out.println(made - before + " bytes for an object, " + (used - made) + " for its calls");
        due.is("room of an object", made - before <= BYTES_OF_AN_OBJECT ? 1 : 0, 1);
        due.is("room of its calls", used - made <= BYTES_OF_THE_CALLS ? 1 : 0, 1);
        due.is("the calls answered", sum == 0 ? 1 : 0, 0);
        due.end();
    }

    private static void useAll(ThreeStrandMaps maps, int times) {
        for (int i = 0; i < times; i++) {
            sum += maps.group(0, 2, 6) + maps.flip(1, 3) + maps.twist(2, 3, 17, 66) + maps.brace(3, 4, 1625);
            sum += maps.braces(5, 0) + maps.put(1, 0, 0, 0, 0) + maps.retract(3, 3) + maps.unite(1, 2, 1);
            sum += maps.pair(2, 3, 3) + maps.invert(0, 3) + maps.mirror(0, 3) + maps.rename(2, 66, 2) + maps.drop(3);
            sum += maps.cell(0, 1, 2, 0) + maps.whole(0, i % 15) + maps.fails(0, 7) + maps.orbit(0, 1) + maps.shut(0, 10);
            sum += maps.alike(0, 5) + maps.power(0, 1, 2, 1000) + maps.like(0, 0, -1) + maps.words(0, 4);
            sum += maps.least(0, 4, 585) + maps.write(0, 'a') + maps.write(1, 'B') + maps.through(0, 0, 3, 83);
            sum += maps.stays(0, 1, 4) + maps.rounds(0, 0, 4) + maps.part(0, 4) + maps.listed(4) + maps.take(4, 22, 3);
            sum += maps.count(1);
        }
    }
}

import java.lang.management.ManagementFactory;

/** What a run of 512 dear calls makes stays far below the room that all calls of a run share. */
public final class RoomTest {
    /** 7.3 million elements of at most 8 bytes; a tenth of that is asked for. */
    private static final long MOST_BYTES = 7300000L * 8 / 10;

    private static final String CUBE = "rows 3;column a 1 2 3 gain 9;column b -2 1 0 gain 8;column c 3 -3 1 gain 7;"
        + "column d 0 0 -4 gain 6;column e 5 1 1 gain 5;column f -1 -1 -1 gain 4;column g 2 -5 2 gain 3;"
        + "column h -4 4 0 gain 2;need 2 1 3;steps 12;";

    private static long made() {
        return ((com.sun.management.ThreadMXBean) ManagementFactory.getThreadMXBean()).getCurrentThreadAllocatedBytes();
    }

    private static long dearCalls(RowWalks x) {
        long all = 0;
        for (int i = 0; i < 60; i++) {
            all += x.worth(i % 8, i % 50) + x.walks(12, 12) + x.step(12, 12, 11) + x.apart(0) + x.order(3);
            all += x.hold(i % 8, i) + x.exchange(3, 0) + x.doubled(4, 3, 4);
        }
        return all + x.narrow(12) + x.fewest() + x.plans(12) + x.seen(8, 1, 1, 1, true) + x.ask(8, 0, 0) + x.chance(12, 12);
    }

    public static void main(String[] args) {
        Told.of(CUBE).narrow(2);
        long before = made();
        RowWalks x = Told.of(CUBE);
        long begun = made();
        dearCalls(x);
        long behind = made();
        System.out.println((behind - before) + " bytes made by a run, " + (begun - before) + " of them with the object and its text");
        if (behind - before > MOST_BYTES) {
            System.out.println("that is more than " + MOST_BYTES);
            System.exit(1);
        }
    }
}

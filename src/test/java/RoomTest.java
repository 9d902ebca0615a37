import java.lang.management.ManagementFactory;

/** The fullest books: their answers, and that 512 calls leave little behind in the one room of a run. */
public final class RoomTest {
    private static final int CALLS = 512;

    private RoomTest() { }

    private static long room() {
        return ((com.sun.management.ThreadMXBean) ManagementFactory.getThreadMXBean()).getCurrentThreadAllocatedBytes();
    }

    // Five bunches of TRANSFERS, each goes on with any of the next one: 6 * 6 * 7 * 7 * 6 ROUNDS.
    private static RoundTrips bunches() {
        RoundTrips x = new RoundTrips();
        for (int a = 0; a < 12; a++) {
            x.add();
        }
        x.bound(1, 5);
        int[] many = {6, 6, 7, 7, 6};
        for (int bunch = 0; bunch < 5; bunch++) {
            for (int i = 0; i < many[bunch]; i++) {
                x.pay(bunch, (bunch + 1) % 5, 1000, 10 * bunch + i);
            }
        }
        return x;
    }

    private static void answers() {
        RoundTrips x = bunches();
        Check.due("many(3)", x.many(3), 10584);
        Check.due("many(4)", x.many(4), 1);
        Check.due("alarm(0, 3)", x.alarm(0, 3), 10584000);
        Check.due("alarm(0, 4)", x.alarm(0, 4), 0);
        Check.due("alarm(0, 2)", x.alarm(0, 2), 5 * 6 * 7 * 7 * 6);
        Check.due("hop(10583, 4)", x.hop(10583, 4), 31);
        Check.due("transfer(0, 6)", x.transfer(0, 6), 5 * 6 * 7 * 7 * 6);
        Check.due("closed(31, 1763)", x.closed(31, 1763), 10583);
        Check.due("closed(31, 1764)", x.closed(31, 1764), -1);
        Check.due("many(10)", x.many(10), 6000);
        Check.due("chain(5, 0)", x.chain(5, 0), 0);
        Check.due("chain(0, 0)", x.chain(0, 0), 4);
        x.strike(31);
        Check.due("many(3)", x.many(3), 5 * 6 * 7 * 7 * 6);
        Check.due("would(4, 0, 1000, 50)", x.would(4, 0, 1000, 50), 6 * 6 * 7 * 7);
    }

    private static void calls() {
        long before = room();
        RoundTrips x = bunches();
        for (int call = 46; call + 4 <= CALLS; call += 4) {
            x.strike(call % 32);
            x.undo();
            x.many(3);
            x.alarm(0, 4);
        }
        Check.due("bytes of a full object's calls stay below 600,000", Math.max(600_000, room() - before), 600_000);
    }

    // Twelve ACCOUNTS in a row, as many ways between each two as there can be.
    private static void ways() {
        RoundTrips x = new RoundTrips();
        for (int a = 0; a < 12; a++) {
            x.add();
        }
        for (int t = 0; t < 32; t++) {
            x.pay(t / 3, t / 3 + 1, 1000, 10 * (t / 3) + t % 3);
        }
        x.soonest(0, 11, 0, 0);
        long before = room();
        for (int call = 50; call < CALLS; call += 3) {
            Check.due("soonest", x.soonest(0, 11, 0, 0), 100);
            Check.due("most", x.most(0, 11, 0), 1000);
            Check.due("chain", x.chain(0, 0), 11);
        }
        Check.due("these calls make next to nothing", Math.max(100_000, room() - before), 100_000);
    }

    private static void smallest() {
        new RoundTrips().many(3);
        long before = room();
        RoundTrips x = new RoundTrips();
        Check.due("bytes of a new object stay below 50,000", Math.max(50_000, room() - before), 50_000);
        Check.due("status()", x.status(), 0);
    }

    public static void main(String[] args) {
        answers();
        calls();
        ways();
        smallest();
        Check.end("RoomTest");
    }
}

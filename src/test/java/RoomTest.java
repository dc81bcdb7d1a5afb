import java.lang.management.ManagementFactory;

/** All calls of a run live in one room: what a call makes is measured in bytes. */
public final class RoomTest {
    private static final com.sun.management.ThreadMXBean THREADS =
        (com.sun.management.ThreadMXBean) ManagementFactory.getThreadMXBean();

    public static void main(String[] args) {
        PlainLearner x = filled();
        for (int k = 0; k < 20; k++) {
            askAll(x);
        }
        long before = THREADS.getCurrentThreadAllocatedBytes();
        for (int k = 0; k < 20; k++) {
            askAll(x);
        }
        long asked = THREADS.getCurrentThreadAllocatedBytes() - before;
        Check.due("calls other than new, leaf and act make nothing; bytes made: " + asked, asked < 1024 ? 1 : 0, 1);
        before = THREADS.getCurrentThreadAllocatedBytes();
        PlainLearner y = filled();
        long made = THREADS.getCurrentThreadAllocatedBytes() - before;
        // 7.3 million elements for 512 calls leave some 14000 for each, of at least four bytes.
        Check.due("a full object; bytes made: " + made, made < 512 * 1024 && y != null ? 1 : 0, 1);
        Check.end();
    }

    private static PlainLearner filled() {
        PlainLearner x = new PlainLearner();
        x.leaf(2, 8, 8, 0);
        x.parameter(0, true);
        for (int i = 0; i < 64; i++) {
            x.tell(0, i, i % 9 == 0 ? 1 : 0, 1);
        }
        for (int k = 0; k < 16; k++) {
            x.act(k, 0, 0);
        }
        x.act(15, 5, 0);
        while (x.count(0) < 50) {
            x.act(4, 0, 0);
        }
        for (int k = 0; k < 40; k++) {
            x.row(k, k * 7 % 11, -k, 3, k % 4);
            x.pair(k * 7 % 13, k % 3 == 0);
        }
        x.game(8);
        x.worth(255, 77);
        return x;
    }

    private static void askAll(PlainLearner x) {
        for (int node = 0; node < 50; node++) {
            x.value(node, 0, 0);
            x.slope(node, 0, 0, 1);
            x.node(node, 4);
            x.ways(node, 0);
        }
        x.tell(0, 5, 1, 3);
        x.train(16, 3);
        x.rate(1, 7);
        x.parameter(0, true);
        x.act(4, 0, 99);
        x.cut(0);
        x.cost(1, 3, 0);
        x.best();
        x.row(0, 0, 0, 0, 0);
        x.worth(3, 4);
        for (int k = 0; k < 8; k++) {
            x.share(k, 0);
            x.score(k % 4, 1);
            x.count(k);
        }
        x.pair(1, true);
        x.empty();
        for (int k = 0; k < 25; k++) {
            x.feed(k % 3 == 0 ? 0x6162616261626162L : 0x6163616361636163L, 8);
        }
        x.encode();
        x.merge();
        x.merged(0, 2);
        x.token(3);
    }
}

import java.lang.management.ManagementFactory;

/** All calls live in one room: an object is small, and what its calls make is nothing. */
public final class RoomTest {
    private static final com.sun.management.ThreadMXBean THREAD =
        (com.sun.management.ThreadMXBean) ManagementFactory.getThreadMXBean();
    private static final int ROUNDS = 2000;

    private static long sum = 0;

    public static void main(String[] args) {
        MarkScripts object = new MarkScripts();
        callAll(object, 1);
        long before = THREAD.getThreadAllocatedBytes(Thread.currentThread().getId());
        for (int seed = 1; seed <= ROUNDS; seed++) {
            callAll(object, seed);
        }
        long made = THREAD.getThreadAllocatedBytes(Thread.currentThread().getId()) - before;
        Calls.equal("calls make objects (" + made + " bytes)", made < 100L * ROUNDS ? 0 : 1, 0);
        before = THREAD.getThreadAllocatedBytes(Thread.currentThread().getId());
        for (int n = 0; n < 512; n++) {
            sum += new MarkScripts().digest();
        }
        made = THREAD.getThreadAllocatedBytes(Thread.currentThread().getId()) - before;
        Calls.equal("objects are large (" + made / 512 + " bytes each)", made < 512L * 40000 ? 0 : 1, 0);
        Calls.equal("something was answered", sum == 0 ? 0 : 1, 1);
        Calls.end("RoomTest");
    }

    private static void callAll(MarkScripts object, int seed) {
        rowsAndTexts(object, seed);
        sum += object.lots(20, seed) + object.lots(20, seed + 1) + object.least() + object.cost(0, 0)
            + object.partner(0, 0) + object.step(0, 0) + object.behind(2, 3) + object.work(1)
            + object.nearest(1, 0) + object.would(0, 0, 97 + seed % 18) + object.keep(seed % 3)
            + object.undo(seed % 40) + object.change(0, 0, 97 + seed % 18) + object.cut(0, 0)
            + object.add(1, 0, 0, 0, 65) + object.price(seed % 3, 1 + seed % 9) + object.turn()
            + object.on(seed % 3) + object.asked() + object.count(2) + object.finding()
            + object.findings(1) + object.digest();
    }

    private static void rowsAndTexts(MarkScripts object, int seed) {
        sum += object.row(0, seed % 41) + object.row(1, 40) + object.lay(0, 0, seed) + object.at(0, 0)
            + object.copy(0, 0, 1, 0, seed % 41) + object.mean(1) + object.tear(0) + object.text(0, 5)
            + object.put(0, 0, 97) + object.put(0, 1, 40) + object.put(0, 2, 74) + object.put(0, 3, 51)
            + object.put(0, 4, 41) + object.fault(0) + object.document(0, 0) + object.document(1, 0)
            + object.write(0, 1) + object.node(0, 1, 7) + object.mark(0, 1, 3);
    }
}

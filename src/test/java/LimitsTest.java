import com.sun.management.ThreadMXBean;
import java.lang.management.ManagementFactory;

/** The deepest programs, the longest rows and the dearest calls, and the room that they take. */
public final class LimitsTest {
    // The room for all calls: 600,000 objects and 7.3 million fields and elements, most of them ints.
    private static final long MOST_BYTES = 40L << 20;

    public static void main(String[] args) {
        deepGuards();
        deepChoices();
        nestedLastParts();
        longCopies();
        likeRowsMadeLarge();
        room();
        Check.end();
    }

    private static void deepGuards() {
        ThrowReports x = new ThrowReports();
        int node = x.act(17, 0, 0, 0, 0);
        for (int i = 1; i < 80; i++) {
            node = x.guard(node, i == 79 ? 1 << 7 : 0, -1, -1);
            Check.due("GUARD " + i, node, i);
            Check.due("COST", x.count(3), i + 1);
        }
        Check.due("run of 79", x.run(78), 7);
        Check.due("run of 80", x.run(79), 0);
        Check.due("report of 79", x.report(78), 1 << 7);
        Check.due("report of 80", x.report(79), 1);
        for (int i = 0; i < 80; i++) {
            Check.due("REACHED", x.reached(i), 1);
        }
    }

    private static void deepChoices() {
        ThrowReports x = new ThrowReports();
        int leaf = x.act(13, 0, 9, 0, 0);
        int node = leaf;
        int made = leaf;
        while (made >= 0) {
            node = made;
            made = x.choice(0, 1, leaf, made);
        }
        Check.due("FULL by COST", made, ThrowReports.FULL);
        Check.due("COST", x.count(3), 99);
        Check.due("run", x.run(node), 0);
        Check.due("done", x.register(0), 9);
        x.given(0, 1023);
        Check.due("report", x.report(node), 1);
        Check.due("AHEAD", x.ahead(leaf, 0), 1023);
    }

    private static void nestedLastParts() {
        ThrowReports x = new ThrowReports();
        int divide = x.act(15, 0, 0, 0, 0);
        int inner = x.guard(divide, 0, -1, -1);
        int middle = x.guard(inner, 0, divide, inner);
        Check.due("COST", x.count(3), 1 + 2 + 1 + 18);
        Check.due("run", x.run(middle), 6);
        Check.due("LAST PARTS", x.ran(3), 1);
        Check.due("LOST", x.ran(4), 1);
        Check.due("FULL by a LAST PART", x.guard(divide, 0, -1, middle), ThrowReports.FULL);
        int outer = x.guard(middle, 0, middle, middle - 1);
        Check.due("COST", x.count(3), 1 + 22 + 22 + 18);
        Check.due("run", x.run(outer), 6);
        Check.due("begun", x.ran(0), 3);
        Check.due("report", x.report(outer), 1 | 1 << 6);
        Check.due("LOST", x.guarded(outer, 1), 1 << 6);
    }

    private static void longCopies() {
        ThrowReports x = new ThrowReports();
        x.act(0, 0, 3, 3000, 0);
        x.act(13, 7, 2999, 0, 0);
        x.act(12, 0, 0, 0, 1);
        x.act(13, 0, 77, 0, 0);
        x.act(6, 0, 3, 0, 0);
        x.act(5, 1, 0, 3, 2999);
        int copies = 2;
        for (int i = 0; i < 5; i++) {
            copies = x.both(copies, copies);
        }
        x.run(0);
        x.run(1);
        x.run(3);
        x.run(4);
        Check.due("run", x.run(copies), 0);
        Check.due("came", x.ran(2), 32 * 2999);
        Check.due("item", x.item(0, 32), 77);
        Check.due("item", x.item(0, 33), 0);
        Check.due("last item", x.item(0, 2999), 0);
        Check.due("GET of the last", x.run(5), 0);
    }

    private static void likeRowsMadeLarge() {
        ThrowReports x = new ThrowReports();
        x.act(1, 0, 50, 28, 0);
        x.act(1, 1, 50, 28, 0);
        x.act(7, 2, 1, 5, 49);
        x.act(13, 0, 1, 0, 0);
        x.act(6, 2, 1, 27, 0);
        x.run(0);
        x.run(1);
        Check.due("items", x.count(1), 2900);
        Check.due("alike", x.alike(0, 1), 2);
        x.run(2);
        x.run(3);
        x.run(4);
        Check.due("another last item", x.alike(0, 1), 0);
    }

    /** What one run of the dearest calls makes: nodes that are guards, then runs and reports of them. */
    private static void room() {
        ThreadMXBean counter = (ThreadMXBean) ManagementFactory.getThreadMXBean();
        busyRun();
        long before = counter.getCurrentThreadAllocatedBytes();
        busyRun();
        long made = counter.getCurrentThreadAllocatedBytes() - before;
        Check.holds("room for one run of 512 calls (" + made + " bytes)", made < MOST_BYTES);
    }

    private static void busyRun() {
        ThrowReports x = new ThrowReports();
        int calls = 0;
        while (calls < 400) {
            x.act(0, 0, 1, 3, 0);
            for (int i = 0; i < 79; i++) {
                x.guard(0, -1, 0, 0);
            }
            x.run(79);
            x.report(79);
            x.clear();
            x.forget();
            calls += 84;
        }
    }
}

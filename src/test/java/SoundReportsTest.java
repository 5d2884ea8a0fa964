import java.util.Random;

/**
 * Reports against runs: if SLOTS hold what START tells, a run fails by what it MAY alone, its
 * failing ACTS are REACHED, and SLOTS hold in the end what is told AHEAD of the NODE behind it.
 */
public final class SoundReportsTest {
    private static final int RUNS = 4000;

    private static int ended = 0;
    private static int failed = 0;

    private final Random random;
    private final ThrowReports x = new ThrowReports();

    private SoundReportsTest(long seed) {
        random = new Random(seed);
    }

    public static void main(String[] args) {
        for (int seed = 0; seed < RUNS; seed++) {
            new SoundReportsTest(seed).check("seed " + seed);
        }
        ends();
        Check.end();
    }

    /** Both ways out are common enough for the rest of this test to tell something. */
    private static void ends() {
        Check.holds("runs end (" + ended + ") and fail (" + failed + ")", ended > RUNS / 4 && failed > RUNS / 4);
    }

    private void check(String what) {
        setUp();
        x.forget();
        int root = makeProgram();
        int behind = x.act(13, 6, 0, 0, 0);
        int all = x.both(root, behind);
        if (all < 0) {
            return;
        }
        int may = x.report(all);
        for (int times = 0; times < 4; times++) {
            int failure = x.run(all);
            Check.holds(what + ": fails by " + failure + " as told", (may >> failure & 1) != 0);
            Check.holds(what + ": MAY", x.may(root) == may && x.reached(root) == 1);
            if (failure == 0) {
                ended++;
                for (int slot = 0; slot < 4; slot++) {
                    Check.holds(what + ": SLOT " + slot, (x.ahead(behind, slot) >> x.slot(slot, 1) & 1) != 0);
                }
            } else {
                failed++;
            }
            if (x.ran(5) >= 0) {
                Check.holds(what + ": the NODE that failed", x.reached(x.ran(5)) == 1 && (x.may(x.ran(5)) & 510) != 0);
            }
            if (!widen()) {
                return;
            }
            may = x.report(all);
        }
    }

    private void setUp() {
        for (int i = 0; i < 10; i++) {
            x.run(randomAct());
        }
        x.forget();
        x.act(13, 7, random.nextInt(4), 0, 0);
        x.run(0);
        for (int slot = 0; slot < 4; slot++) {
            x.given(slot, 1 << x.slot(slot, 1) | random.nextInt(1024) & random.nextInt(1024) & random.nextInt(1024));
        }
    }

    /** START is made to hold what SLOTS hold now; false when there is little room left. */
    private boolean widen() {
        for (int slot = 0; slot < 4; slot++) {
            int set = x.given(slot, 1);
            x.given(slot, set | 1 << x.slot(slot, 1));
        }
        return x.count(0) < 150;
    }

    private int randomAct() {
        int a = random.nextInt(4);
        int b = random.nextInt(4);
        int i = random.nextInt(3);
        switch (random.nextInt(13)) {
            case 0: return x.act(0, a, 1 + random.nextInt(4), 1 + i, 0);
            case 1: return x.act(0, a, 6 + random.nextInt(2), 1 + i, 0);
            case 2: return x.act(1, a, i, i, 0);
            case 3: return x.act(3, a, random.nextInt(2), i, 0);
            case 4: return x.act(4, a, b, random.nextInt(10), 0);
            case 5: return x.act(5, i, b, 1 + random.nextInt(4), i);
            case 6: return x.act(6, a, 1 + random.nextInt(4), i, i);
            case 7: return x.act(7, a, b, 5 + random.nextInt(3), i);
            case 8: return x.act(8, a, 5 + random.nextInt(3), i, b);
            case 9: return x.act(9, i, b, 1 + random.nextInt(7), 0);
            case 10: return x.act(11, i, b, 0, 0);
            case 11: return x.act(12, a, 0, b, random.nextInt(2));
            default: return x.act(15, i, i, i, 0);
        }
    }

    private int makeProgram() {
        int latest = randomAct();
        for (int i = 0; i < 25; i++) {
            int act = randomAct();
            int other = random.nextInt(act + 1);
            int made;
            switch (random.nextInt(4)) {
                case 0: made = x.both(latest, act); break;
                case 1: made = x.choice(random.nextInt(4), random.nextInt(10), latest, act); break;
                case 2: made = x.guard(latest, random.nextInt(), other, -1); break;
                default: made = x.guard(latest, random.nextInt(), random.nextBoolean() ? act : -1, act); break;
            }
            latest = made >= 0 ? made : latest;
        }
        return latest;
    }
}

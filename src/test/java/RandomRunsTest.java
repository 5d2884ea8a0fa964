import java.util.Random;

/** Runs of 512 calls by fixed seeds, each answer held against the Oracle's. */
public final class RandomRunsTest {
    private static final int RUNS = 3000, CALLS = 512;
    private static final int[] ODD = {Integer.MIN_VALUE, -1000, -2, -1, 8, 10, 12, 13, 32, 80, 99, 200, 1500, 3000, 3001,
        65536, Integer.MAX_VALUE - 1, Integer.MAX_VALUE};

    private final Random random;
    private final ThrowReports x = new ThrowReports();
    private final Oracle o = new Oracle();
    private final int slots;
    private final boolean wild;
    private final StringBuilder told = new StringBuilder();

    private RandomRunsTest(long seed) {
        random = new Random(seed);
        slots = 2 + random.nextInt(11);
        wild = random.nextInt(4) == 0;
    }

    public static void main(String[] args) {
        for (int seed = 0; seed < RUNS; seed++) {
            new RandomRunsTest(seed).calls(seed);
        }
        Check.end();
    }

    private void calls(int seed) {
        for (int i = 0; i < CALLS; i++) {
            told.setLength(0);
            long[] answers = random.nextInt(100) < 45 ? make() : random.nextInt(100) < 40 ? change() : look();
            Check.due("seed " + seed + ", call " + i + ": " + told, answers[0], answers[1]);
            if (answers[0] != answers[1]) {
                return;
            }
        }
    }

    private int odd() {
        return ODD[random.nextInt(ODD.length)];
    }

    private int below(int bound) {
        return random.nextInt(wild ? 12 : 60) == 0 ? odd() : random.nextInt(bound);
    }

    private int slot() {
        return below(slots);
    }

    private int node() {
        int nodes = o.count(2);
        return nodes == 0 || random.nextInt(40) == 0 ? odd() : random.nextInt(3) == 0 ? nodes - 1 : random.nextInt(nodes);
    }

    private int small() {
        return random.nextInt(10) == 0 ? odd() : random.nextInt(6) - (random.nextInt(8) == 0 ? 1 : 0);
    }

    private int kind(int least, int most) {
        return random.nextInt(50) == 0 ? odd() : least + random.nextInt(most - least + 1);
    }

    private void tell(String name, int... n) {
        told.append(name).append(java.util.Arrays.toString(n));
    }

    private long[] make() {
        if (random.nextInt(3) > 0) {
            return makeAct();
        }
        int p = node();
        int q = node();
        int r = random.nextInt(3) == 0 ? -1 : node();
        int s = random.nextInt(2) == 0 ? -1 : node();
        switch (random.nextInt(3)) {
            case 0:
                tell("both", p, q);
                return new long[] {x.both(p, q), o.both(p, q)};
            case 1: {
                int slot = slot();
                int kind = kind(0, 9);
                tell("choice", slot, kind, p, q);
                return new long[] {x.choice(slot, kind, p, q), o.choice(slot, kind, p, q)};
            }
            default: {
                int set = random.nextInt(4) == 0 ? -1 : random.nextInt();
                tell("guard", p, set, r, s);
                return new long[] {x.guard(p, set, r, s), o.guard(p, set, r, s)};
            }
        }
    }

    private long[] makeAct() {
        int op = random.nextInt(50) == 0 ? odd() : random.nextInt(18);
        int[] n = numbers(op);
        tell("act", op, n[0], n[1], n[2], n[3]);
        return new long[] {x.act(op, n[0], n[1], n[2], n[3]), o.act(op, n[0], n[1], n[2], n[3])};
    }

    private int[] numbers(int op) {
        switch (op) {
            case 0: return new int[] {slot(), kind(1, 7), small(), small()};
            case 1: return new int[] {slot(), small(), small(), small()};
            case 2: return new int[] {slot(), small(), small(), small()};
            case 3: return new int[] {slot(), random.nextInt(2), small(), small()};
            case 4: return new int[] {slot(), slot(), kind(0, 9), small()};
            case 5: return new int[] {below(8), slot(), kind(1, 4), small()};
            case 6: return new int[] {slot(), kind(1, 4), small(), below(8)};
            case 7: return new int[] {slot(), slot(), kind(5, 7), small()};
            case 8: return new int[] {slot(), kind(5, 7), small(), slot()};
            case 9: return new int[] {below(8), slot(), kind(1, 7), small()};
            case 10: return new int[] {slot(), slot(), small(), small()};
            case 11: return new int[] {below(8), slot(), small(), small()};
            case 12: return new int[] {slot(), random.nextInt(3), slot(), random.nextInt(3)};
            case 13: return new int[] {random.nextInt(2) == 0 ? 7 : below(8), small(), small(), small()};
            default: return new int[] {below(8), below(8), below(8), small()};
        }
    }

    private long[] change() {
        int chance = random.nextInt(100);
        if (chance < 2) {
            tell("forget");
            return new long[] {x.forget(), o.forget()};
        }
        if (chance < 4) {
            tell("clear");
            return new long[] {x.clear(), o.clear()};
        }
        if (chance < 20) {
            int slot = slot();
            int set = random.nextInt(20) == 0 ? odd() : random.nextInt(2) == 0 ? random.nextInt(1025) : 1 << random.nextInt(10);
            tell("given", slot, set);
            return new long[] {x.given(slot, set), o.given(slot, set)};
        }
        int node = node();
        if (chance < 70) {
            tell("run", node);
            return new long[] {x.run(node), o.run(node)};
        }
        tell("report", node);
        return new long[] {x.report(node), o.report(node)};
    }

    private long[] look() {
        int what = below(7);
        int slot = slot();
        int node = node();
        switch (random.nextInt(10)) {
            case 0:
                tell("ran", what);
                return new long[] {x.ran(what), o.ran(what)};
            case 1:
                tell("count", what);
                return new long[] {x.count(what), o.count(what)};
            case 2:
                tell("slot", slot, what % 3);
                return new long[] {x.slot(slot, what % 3), o.slot(slot, what % 3)};
            case 3: {
                int i = small();
                tell("item", slot, i);
                return new long[] {x.item(slot, i), o.item(slot, i)};
            }
            case 4: {
                int r = below(8);
                tell("register", r);
                return new long[] {x.register(r), o.register(r)};
            }
            case 5: {
                int other = slot();
                tell("alike", slot, other);
                return new long[] {x.alike(slot, other), o.alike(slot, other)};
            }
            case 6:
                tell("reached", node);
                return new long[] {x.reached(node), o.reached(node)};
            case 7:
                tell("may", node);
                return new long[] {x.may(node), o.may(node)};
            case 8:
                tell("ahead", node, slot);
                return new long[] {x.ahead(node, slot), o.ahead(node, slot)};
            default:
                tell("guarded", node, what % 3);
                return new long[] {x.guarded(node, what % 3), o.guarded(node, what % 3)};
        }
    }
}

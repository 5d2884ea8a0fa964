/**
 * An ACT in a program that shows each way out of it: behind its END and behind each FAILURE stands
 * a NODE of its own that does nothing to SLOTS, so that what is AHEAD of that is the STATE of this way.
 */
final class Probe extends Words {
    static final int END = 0, WAYS = 9;

    final ThrowReports x = new ThrowReports();
    private final int act;
    private final int[] behind = new int[WAYS];
    private final int root;

    Probe(int op, int a, int b, int c, int d) {
        act = x.act(op, a, b, c, d);
        for (int way = END; way < WAYS; way++) {
            behind[way] = x.act(NUMBER, 0, way, 0, 0);
        }
        int node = x.both(act, behind[END]);
        for (int way = NOTHING; way <= ROOM; way++) {
            node = x.guard(node, 1 << way, behind[way], -1);
        }
        root = node;
    }

    /** Reports it from START sets for SLOTS 0, 1, ..; what it MAY. */
    int from(int... sets) {
        for (int slot = 0; slot < sets.length; slot++) {
            x.given(slot, sets[slot]);
        }
        Check.due("all of it ENDS", x.report(root), 1);
        return x.may(act);
    }

    /** The set of a SLOT behind one way out; 0 where the ACT may not go it. */
    int by(int way, int slot) {
        return x.ahead(behind[way], slot);
    }

    /** That all ways not named here are not gone. */
    void goesJust(String what, int... ways) {
        Check.due(what + " MAY", x.may(act), set(ways));
        for (int way = END; way < WAYS; way++) {
            Check.due(what + ", way " + way, x.reached(behind[way]), set(ways) >> way & 1);
        }
    }
}

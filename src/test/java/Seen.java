/**
 * All that can be seen of an object, as a text, to hold one time against another. It takes some 170
 * calls, so an object can be looked at twice within its 512.
 */
final class Seen {
    private static final int LATEST_NODES = 6;
    private static final int[] SLOTS_AHEAD = {0, 1, 2, 11};

    private Seen() {
    }

    static String of(ThrowReports x) {
        return ofMachine(x) + ofRun(x) + ofNodes(x) + ofStart(x);
    }

    /** What acts work on: SLOTS, REGISTERS and THINGS. */
    static String ofMachine(ThrowReports x) {
        StringBuilder seen = new StringBuilder("THINGS " + x.count(0) + " items " + x.count(1) + " SLOTS");
        for (int slot = 0; slot < 12; slot++) {
            int kind = x.slot(slot, 1);
            int size = x.slot(slot, 2);
            seen.append(' ').append(x.slot(slot, 0)).append('/').append(kind).append('/').append(size);
            for (int i = 0; kind < 8 && i < size && i < 4; i++) {
                seen.append(i == 0 ? ":" : ",").append(x.item(slot, i));
            }
        }
        seen.append(" REGISTERS");
        for (int r = 0; r < 8; r++) {
            seen.append(' ').append(x.register(r));
        }
        return seen.toString();
    }

    static String ofRun(ThrowReports x) {
        StringBuilder seen = new StringBuilder(" ran");
        for (int what = 0; what < 6; what++) {
            seen.append(' ').append(x.ran(what));
        }
        return seen.toString();
    }

    /** NODES, and what the REPORT tells of the first and the latest ones. */
    static String ofNodes(ThrowReports x) {
        int nodes = x.count(2);
        StringBuilder seen = new StringBuilder(" NODES " + nodes + " COST " + x.count(3));
        for (int node = 0; node < nodes; node++) {
            if (node == 0 || node >= nodes - LATEST_NODES) {
                seen.append(" | ").append(x.reached(node)).append(' ').append(x.may(node));
                for (int slot : SLOTS_AHEAD) {
                    seen.append(' ').append(x.ahead(node, slot));
                }
                seen.append(' ').append(x.guarded(node, 0)).append(' ').append(x.guarded(node, 1));
            }
        }
        return seen.toString();
    }

    /** START can be seen only by giving another one, so that it is given back. */
    static String ofStart(ThrowReports x) {
        StringBuilder seen = new StringBuilder(" START");
        for (int slot = 0; slot < 12; slot++) {
            int set = x.given(slot, 1);
            x.given(slot, set);
            seen.append(' ').append(set);
        }
        return seen.toString();
    }
}

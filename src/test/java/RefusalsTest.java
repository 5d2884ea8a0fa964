import java.util.function.Supplier;
import java.util.function.ToLongFunction;

/**
 * "REFUSALS are answers: BAD (a number is not as told, there is no such thing), then FULL. They
 * change nothing." Each call that is refused, and that nothing has changed then: neither what can
 * be seen at once, nor what later calls answer.
 */
public final class RefusalsTest extends Words {
    private static final int[] NO_SLOTS = {MIN, -1, 12, 32, MAX};
    // Where an object is known, 0 stands here for the first number behind its latest NODE.
    private static final int[] NO_NODES = {MIN, -2, 0, 80, 256, MAX};
    private static final int[] COSTS = {1, 3, 7, 15, 31, 63, 95, 96, 97, 98, 99, 100, 11, 9, 10};

    // By OP: what a, b, c and d may be; null stands for any.
    private static final String SLOT = "0 1 2 3 4 5 6 7 8 9 10 11", REGISTER = "0 1 2 3 4 5 6 7";
    private static final String NUMBERS = "1 2 3 4", OTHERS = "5 6 7";
    private static final String[][] FORMS = {
        {SLOT, "1 2 3 4 6 7", null, null}, {SLOT, null, null, null}, {SLOT, null, null, null}, {SLOT, null, null, null},
        {SLOT, SLOT, "0 1 2 3 4 5 6 7 8 9", null}, {REGISTER, SLOT, NUMBERS, null}, {SLOT, NUMBERS, null, REGISTER},
        {SLOT, SLOT, OTHERS, null}, {SLOT, OTHERS, null, SLOT}, {REGISTER, SLOT, "1 2 3 4 5 6 7", null},
        {SLOT, SLOT, null, null}, {REGISTER, SLOT, null, null}, {SLOT, null, SLOT, null}, {REGISTER, null, null, null},
        {REGISTER, REGISTER, REGISTER, null}, {REGISTER, REGISTER, REGISTER, null}, {REGISTER, REGISTER, REGISTER, null},
        {null, null, null, null}};

    public static void main(String[] args) {
        refusedActs();
        refusedBoths();
        refusedChoices();
        refusedGuards();
        refusedRuns();
        refusedLooks();
        refusedStarts();
        refusedReports();
        fullOfNodes();
        fullByCost();
        badThenFull();
        withoutNodes();
        afterForget();
        Check.end();
    }

    /** SLOTS, REGISTERS, THINGS, NODES, START, a run and a REPORT: none of them as at first. */
    private static ThrowReports busy() {
        ThrowReports x = new ThrowReports();
        int row = x.both(x.act(MAKE, 0, 1, 3, 0), x.act(DEEP, 3, 1, 2, 0));
        int round = x.both(x.act(FIGURE, 2, 1, 5, 0), x.act(MAKE, 1, 7, 2, 0));
        int laid = x.both(x.act(LAY, 1, 7, 0, 2), x.act(NUMBER, 7, 2, 0, 0));
        int come = x.both(x.act(SET, 0, 1, 0, 7), x.act(COPY, 0, 0, 0, 1));
        int made = x.both(x.both(row, round), x.both(laid, come));
        int lost = x.guard(x.act(FAIL, 0, 0, 0, 0), set(ZERO), -1, x.act(DIVIDE, 3, 3, 3, 0));
        int root = x.guard(x.both(made, lost), set(PLACE, ROOM), -1, -1);
        x.given(0, set(0, 2));
        x.given(11, ALL);
        Check.due("run of a busy object", x.run(root), ZERO);
        x.report(root);
        return x;
    }

    private static int latest(ThrowReports x) {
        return x.count(2) - 1;
    }

    /** Another run, REPORT, NODE and START, so that what is hidden comes to be seen. */
    private static void goOn(ThrowReports x) {
        x.act(NUMBER, 1, 9, 0, 0);
        x.run(latest(x));
        x.given(1, set(3, 4));
        x.report(Math.max(0, latest(x) - 1));
        x.clear();
        x.run(Math.max(0, latest(x) - 1));
    }

    private static void refused(String what, int want, ToLongFunction<ThrowReports> call) {
        refused(what, want, RefusalsTest::busy, call);
    }

    private static void refused(String what, int want, Supplier<ThrowReports> made, ToLongFunction<ThrowReports> call) {
        ThrowReports x = made.get();
        String before = Seen.of(x);
        Check.due(what, call.applyAsLong(x), want);
        Check.same(what + " changes nothing", Seen.of(x), before);
        ThrowReports one = made.get();
        ThrowReports other = made.get();
        call.applyAsLong(one);
        goOn(one);
        goOn(other);
        Check.same(what + " changes nothing that comes", Seen.of(one), Seen.of(other));
    }

    private static void refusedActs() {
        Check.by("Promise 2, BAD: op is not 0 .. 17; what its words call SLOT, REGISTER, KIND is not as told (all else may be any)");
        for (int op : new int[] {MIN, -1, 18, 32, MAX}) {
            refused("act of op " + op, BAD, x -> x.act(op, 1, 1, 1, 1));
        }
        for (int op = MAKE; op <= FAIL; op++) {
            for (int place = 0; place < 4; place++) {
                for (int value = -2; value <= 13; value++) {
                    refusedNumber(op, place, value);
                }
                for (int value : new int[] {MIN, MIN + 1, -33, -32, -31, 31, 32, 33, 37, 40, 63, 64, 65, 1023, 1024, 1 << 16, MAX}) {
                    refusedNumber(op, place, value);
                }
            }
        }
    }

    private static void refusedNumber(int op, int place, int value) {
        int[] n = new int[4];
        for (int i = 0; i < 4; i++) {
            n[i] = FORMS[op][i] == null ? 0 : FORMS[op][i].charAt(0) - '0';
        }
        n[place] = value;
        String call = "act(" + op + ", " + n[0] + ", " + n[1] + ", " + n[2] + ", " + n[3] + ")";
        String form = FORMS[op][place];
        if (form == null || (" " + form + " ").contains(" " + value + " ")) {
            ThrowReports x = busy();
            int nodes = x.count(2);
            Check.due(call, x.act(op, n[0], n[1], n[2], n[3]), nodes);
            Check.due("NODES after " + call, x.count(2), nodes + 1);
        } else {
            refused(call, BAD, x -> x.act(op, n[0], n[1], n[2], n[3]));
        }
    }

    private static int noNode(ThrowReports x, int number) {
        return number == 0 ? x.count(2) : number;
    }

    private static void refusedBoths() {
        Check.by("Promise 3, BAD: no such NODES");
        refused("both of -1 and a NODE", BAD, x -> x.both(-1, 0));
        refused("both of a NODE and -1", BAD, x -> x.both(0, -1));
        for (int no : NO_NODES) {
            refused("both of " + no + " and a NODE", BAD, x -> x.both(noNode(x, no), 0));
            refused("both of a NODE and " + no, BAD, x -> x.both(0, noNode(x, no)));
        }
    }

    private static void refusedChoices() {
        Check.by("Promise 4, BAD: SLOT, kind 0 .. 9, NODES");
        for (int no : NO_SLOTS) {
            refused("choice of SLOT " + no, BAD, x -> x.choice(no, 1, 0, 1));
        }
        for (int no : new int[] {MIN, -1, 10, 11, 32, 33, MAX}) {
            refused("choice of KIND " + no, BAD, x -> x.choice(0, no, 0, 1));
        }
        refused("choice of -1", BAD, x -> x.choice(0, 1, -1, 0));
        refused("choice with -1 as the other", BAD, x -> x.choice(0, 1, 0, -1));
        for (int no : NO_NODES) {
            refused("choice of " + no, BAD, x -> x.choice(0, 1, noNode(x, no), 0));
            refused("choice with " + no + " as the other", BAD, x -> x.choice(0, 1, 0, noNode(x, no)));
        }
    }

    private static void refusedGuards() {
        Check.by("Promise 5, handler, last: -1: none. BAD: NODES");
        refused("guard without a BODY", BAD, x -> x.guard(-1, 0, -1, -1));
        for (int no : NO_NODES) {
            refused("guard of BODY " + no, BAD, x -> x.guard(noNode(x, no), 0, -1, -1));
            refused("guard with HANDLER " + no, BAD, x -> x.guard(0, 0, noNode(x, no), -1));
            refused("guard with LAST PART " + no, BAD, x -> x.guard(0, 0, -1, noNode(x, no)));
        }
    }

    private static void refusedRuns() {
        Check.by("Promise 7, A NODE is done: 0, or what it failed by. BAD.");
        refused("run(-1)", BAD, x -> x.run(-1));
        for (int no : NO_NODES) {
            refused("run of " + no, BAD, x -> x.run(noNode(x, no)));
        }
    }

    private static void refusedLooks() {
        for (int no : new int[] {MIN, -1, 6, 32, MAX}) {
            Check.by("Promise 8, 0 ACTS that were begun .. 5 the NODE of the latest ACT that failed .. BAD.");
            refused("ran(" + no + ")", BAD, x -> x.ran(no));
        }
        for (int no : new int[] {MIN, -1, 4, 32, MAX}) {
            Check.by("Promise 10, 0 THINGS, 1 items of all rows, 2 NODES; 3 the COST of the latest NODE (0 without one). BAD.");
            refused("count(" + no + ")", BAD, x -> x.count(no));
        }
        for (int no : new int[] {MIN, -1, 3, 32, MAX}) {
            Check.by("Promise 11, 0 the THING's number (0: NOTHING), 1 its KIND (0), 2 its length, or NUMBER (0). BAD.");
            refused("slot(0, " + no + ")", BAD, x -> x.slot(0, no));
            refused("slot(5, " + no + ") of NOTHING", BAD, x -> x.slot(5, no));
        }
        for (int no : NO_SLOTS) {
            Check.by("Promise 11, Of a SLOT: .. BAD.");
            refused("slot(" + no + ", 0)", BAD, x -> x.slot(no, 0));
            refused("slot(" + no + ", 2)", BAD, x -> x.slot(no, 2));
            Check.by("Promise 12, 0: .. or there is no such SLOT.");
            refused("item(" + no + ", 0)", 0, x -> x.item(no, 0));
            Check.by("Promise 13, A REGISTER; 0: there is no such one.");
            refused("register(" + no + ")", 0, x -> x.register(no == 12 ? 8 : no));
            Check.by("Promise 14, Whether two SLOTS hold the same THING .. BAD.");
            refused("alike(" + no + ", 0)", BAD, x -> x.alike(no, 0));
            refused("alike(0, " + no + ")", BAD, x -> x.alike(0, no));
            refused("alike(" + no + ", " + no + ")", BAD, x -> x.alike(no, no));
        }
        refused("alike(-1, 12)", BAD, x -> x.alike(-1, 12));
    }

    private static void refusedStarts() {
        Check.by("Promise 15, BAD: also, an empty one, other bits.");
        for (int no : NO_SLOTS) {
            refused("given(" + no + ", 1)", BAD, x -> x.given(no, 1));
        }
        for (int no : new int[] {0, -1, MIN, MAX, MIN | 1, 1024, 1025, 2047, 1 << 16, 1 << 30}) {
            for (int slot : new int[] {0, 7, 11}) {
                refused("given(" + slot + ", " + no + ")", BAD, x -> x.given(slot, no));
            }
        }
    }

    private static void refusedReports() {
        for (int no : new int[] {MIN, -2, -1, 0, 80, 256, MAX}) {
            Check.by("Promise 16, A REPORT of a NODE is made .. BAD.");
            refused("report of " + no, BAD, x -> x.report(noNode(x, no)));
            Check.by("Promise 17, Whether a NODE was REACHED in the latest REPORT .. BAD.");
            refused("reached of " + no, BAD, x -> x.reached(noNode(x, no)));
            Check.by("Promise 18, What a NODE MAY in it .. BAD.");
            refused("may of " + no, BAD, x -> x.may(noNode(x, no)));
            Check.by("Promise 19, The set of a SLOT AHEAD of a NODE in it; 0 likewise. BAD.");
            refused("ahead of " + no, BAD, x -> x.ahead(noNode(x, no), 0));
            Check.by("Promise 20, A GUARD's VAIN FAILURES (what = 0), LOST ones (1) in it, by bits; 0 likewise. BAD");
            refused("guarded of " + no, BAD, x -> x.guarded(noNode(x, no), 0));
            refused("guarded of " + no, BAD, x -> x.guarded(noNode(x, no), 1));
        }
        for (int no : NO_SLOTS) {
            Check.by("Promise 19, The set of a SLOT AHEAD of a NODE in it; 0 likewise. BAD.");
            refused("ahead of SLOT " + no, BAD, x -> x.ahead(0, no));
        }
        Check.by("Promise 20, (what = 0), LOST ones (1) in it, by bits; 0 likewise. BAD: also, it is no GUARD.");
        for (int no : new int[] {MIN, -1, 2, 32, MAX}) {
            refused("guarded by " + no, BAD, x -> x.guarded(latest(x), no));
        }
        for (int what = 0; what < 2; what++) {
            int asked = what;
            refused("guarded of an ACT", BAD, x -> x.guarded(0, asked));
            refused("guarded of BOTH", BAD, x -> x.guarded(2, asked));
        }
        ThrowReports y = new ThrowReports();
        Check.due("guarded of a CHOICE", y.guarded(y.choice(0, 0, y.act(FAIL, 0, 0, 0, 0), 0), 0), BAD);
        Check.due("guarded of a CHOICE", y.guarded(1, 1), BAD);
    }

    /** A busy object with 80 NODES. */
    private static ThrowReports full() {
        ThrowReports x = busy();
        for (int nodes = x.count(2); nodes < 80; nodes++) {
            Check.due("a NODE more", x.act(NUMBER, 2, nodes, 0, 0), nodes);
        }
        return x;
    }

    private static void fullOfNodes() {
        Check.by("Promises 2 to 5, FULL: 80");
        refused("act of 80", FULL, RefusalsTest::full, x -> x.act(NUMBER, 0, 0, 0, 0));
        refused("act of 80", FULL, RefusalsTest::full, x -> x.act(FAIL, -1, -1, -1, -1));
        refused("both of 80", FULL, RefusalsTest::full, x -> x.both(0, 79));
        refused("choice of 80", FULL, RefusalsTest::full, x -> x.choice(0, 0, 79, 0));
        refused("guard of 80", FULL, RefusalsTest::full, x -> x.guard(79, -1, -1, -1));
        refused("guard of 80", FULL, RefusalsTest::full, x -> x.guard(0, 0, 0, 79));
    }

    /** NODES 0, 1, .. with those COSTS, a run and a REPORT of one of them. */
    private static ThrowReports costly() {
        ThrowReports x = new ThrowReports();
        x.act(DIVIDE, 1, 2, 3, 0);
        for (int i = 0; i < 5; i++) {
            x.both(i, i);
        }
        x.both(5, 4);
        for (int i = 6; i < 11; i++) {
            x.guard(i, set(OWN), -1, -1);
        }
        x.both(2, 1);
        x.both(2, 0);
        x.guard(13, set(ZERO), -1, -1);
        x.run(14);
        x.report(14);
        return x;
    }

    private static void fullByCost() {
        Check.by("The COST of a NODE: 1, and those of all its NODES, that of a LAST PART nine times.");
        ThrowReports y = new ThrowReports();
        Check.due("an ACT", y.act(FAIL, 0, 0, 0, 0), 0);
        Check.due("its COST", y.count(3), COSTS[0]);
        Check.due("NODES", costly().count(2), COSTS.length);
        Check.due("COST of the latest", costly().count(3), COSTS[COSTS.length - 1]);
        Check.by("Promises 3 to 5, FULL: 80, or its COST would be above 100");
        refused("both of COST 101", FULL, RefusalsTest::costly, x -> x.both(10, 0));
        refused("both of COST 101", FULL, RefusalsTest::costly, x -> x.both(0, 10));
        refused("both of COST 201", FULL, RefusalsTest::costly, x -> x.both(11, 11));
        refused("choice of COST 101", FULL, RefusalsTest::costly, x -> x.choice(0, 0, 10, 0));
        refused("choice of COST 101", FULL, RefusalsTest::costly, x -> x.choice(0, 0, 0, 10));
        refused("guard of COST 101", FULL, RefusalsTest::costly, x -> x.guard(11, 0, -1, -1));
        refused("guard of COST 101", FULL, RefusalsTest::costly, x -> x.guard(10, 0, 0, -1));
        refused("guard of COST 101", FULL, RefusalsTest::costly, x -> x.guard(0, 0, 10, -1));
        refused("guard of COST 101 by its LAST PART", FULL, RefusalsTest::costly, x -> x.guard(0, 0, -1, 12));
        refused("guard of COST 101 by all parts", FULL, RefusalsTest::costly, x -> x.guard(2, 0, 1, 14));
        refused("guard of COST 1001", FULL, RefusalsTest::costly, x -> x.guard(11, 0, -1, 11));
        reachesCost100();
    }

    /** The same NODES at the limit itself. */
    private static void reachesCost100() {
        ThrowReports x = costly();
        Check.due("both of COST 100", x.both(9, 0), 15);
        Check.due("COST", x.count(3), 100);
        Check.due("choice of COST 100", x.choice(0, 0, 0, 9), 16);
        Check.due("COST", x.count(3), 100);
        Check.due("guard of COST 100", x.guard(10, 0, -1, -1), 17);
        Check.due("COST", x.count(3), 100);
        Check.due("guard of COST 100 with a HANDLER", x.guard(0, 0, 9, -1), 18);
        Check.due("COST", x.count(3), 100);
        Check.due("guard of COST 100 with a LAST PART", x.guard(13, 0, -1, 14), 19);
        Check.due("COST", x.count(3), 100);
        Check.due("guard of COST 99 with all parts", x.guard(2, 0, 0, 14), 20);
        Check.due("COST", x.count(3), 99);
    }

    private static void badThenFull() {
        Check.by("BAD (a number is not as told, there is no such thing), then FULL.");
        refused("act", BAD, RefusalsTest::full, x -> x.act(18, 0, 0, 0, 0));
        refused("act", BAD, RefusalsTest::full, x -> x.act(MAKE, 0, 5, 0, 0));
        refused("both", BAD, RefusalsTest::full, x -> x.both(0, 80));
        refused("both", BAD, RefusalsTest::full, x -> x.both(80, 0));
        refused("choice", BAD, RefusalsTest::full, x -> x.choice(12, 0, 0, 0));
        refused("choice", BAD, RefusalsTest::full, x -> x.choice(0, 10, 0, 0));
        refused("choice", BAD, RefusalsTest::full, x -> x.choice(0, 0, 0, 80));
        refused("guard", BAD, RefusalsTest::full, x -> x.guard(80, 0, -1, -1));
        refused("guard", BAD, RefusalsTest::full, x -> x.guard(0, 0, 80, -1));
        refused("guard", BAD, RefusalsTest::full, x -> x.guard(0, 0, -1, 80));
        refused("both of too much COST", BAD, RefusalsTest::costly, x -> x.both(11, 15));
        refused("choice of too much COST", BAD, RefusalsTest::costly, x -> x.choice(0, 10, 11, 11));
        refused("guard of too much COST", BAD, RefusalsTest::costly, x -> x.guard(11, 0, 15, 11));
        refused("guard of too much COST", BAD, RefusalsTest::costly, x -> x.guard(11, 0, 11, -2));
    }

    private static void noNodeIsThere(Supplier<ThrowReports> made) {
        refused("both(0, 0)", BAD, made, x -> x.both(0, 0));
        refused("choice(0, 0, 0, 0)", BAD, made, x -> x.choice(0, 0, 0, 0));
        refused("guard(0, 0, -1, -1)", BAD, made, x -> x.guard(0, 0, -1, -1));
        refused("guard(-1, 0, -1, -1)", BAD, made, x -> x.guard(-1, 0, -1, -1));
        refused("run(0)", BAD, made, x -> x.run(0));
        refused("report(0)", BAD, made, x -> x.report(0));
        refused("reached(0)", BAD, made, x -> x.reached(0));
        refused("may(0)", BAD, made, x -> x.may(0));
        refused("ahead(0, 0)", BAD, made, x -> x.ahead(0, 0));
        refused("guarded(0, 0)", BAD, made, x -> x.guarded(0, 0));
        refused("forget()", 0, made, x -> x.forget());
    }

    private static void withoutNodes() {
        Check.by("Promise 1, no NODES");
        noNodeIsThere(ThrowReports::new);
        refused("clear()", 0, ThrowReports::new, x -> x.clear());
    }

    private static ThrowReports forgetful() {
        ThrowReports x = busy();
        Check.due("forget", x.forget(), 20);
        return x;
    }

    private static void afterForget() {
        Check.by("Promise 6, NODES go, and the REPORT: how many there were.");
        noNodeIsThere(RefusalsTest::forgetful);
    }
}

/** Promises 15 to 20: START, and what a REPORT tells of acts, choices and guards. */
public final class ReportsTest extends Words {
    // The bits of what a NODE MAY.
    private static final int END = 1, NOTHING = 2, UNLIKE = 4, PLACE = 8, SIZE = 16, STORE = 32, ZERO = 64, OWN = 128;
    private static final int ROOM = 256;

    public static void main(String[] args) {
        starts();
        refusals();
        actsThatMake();
        moves();
        rows();
        takes();
        lays();
        copies();
        reckons();
        afterFailures();
        bothNodes();
        choices();
        handlers();
        lastParts();
        vainAndLost();
        vainByTheGuardsOwnTimes();
        reportsAnew();
        lostByRoom();
        nodesUsedTwice();
        latestReport();
        Check.end();
    }

    /** An object with START sets for SLOTS 0, 1, ..; what is left out stays just NOTHING. */
    private static ThrowReports from(int... sets) {
        ThrowReports x = new ThrowReports();
        for (int slot = 0; slot < sets.length; slot++) {
            x.given(slot, sets[slot]);
        }
        return x;
    }

    /** Reports an ACT of x, with a GUARD that shows its STATE behind a way out: way 0 the END, k FAILURE k. */
    private static int[] behind(ThrowReports x, int way, int op, int a, int b, int c, int d) {
        x.forget();
        int act = x.act(op, a, b, c, d);
        int probe = x.act(NUMBER, 0, 0, 0, 0);
        int root = way == 0 ? x.both(act, probe) : x.guard(act, 1 << way, probe, -1);
        x.report(root);
        int[] sets = new int[12];
        for (int slot = 0; slot < 12; slot++) {
            sets[slot] = x.ahead(probe, slot);
        }
        return sets;
    }

    private static int mays(ThrowReports x, int op, int a, int b, int c, int d) {
        x.forget();
        return x.report(x.act(op, a, b, c, d));
    }

    private static void starts() {
        ThrowReports x = new ThrowReports();
        for (int slot = 0; slot < 12; slot++) {
            Check.due("START at first", x.given(slot, slot + 1), 1);
            Check.due("START was", x.given(slot, ALL), slot + 1);
            Check.due("START was", x.given(slot, 512), ALL);
        }
        for (int wrong : new int[] {MIN, -1, 0, 1024, 1025, 2048, MAX}) {
            Check.due("given(3, " + wrong + ")", x.given(3, wrong), BAD);
        }
        for (int wrong : new int[] {MIN, -1, 12, 99, MAX}) {
            Check.due("given(" + wrong + ", 1)", x.given(wrong, 1), BAD);
        }
        Check.due("refusals change nothing", x.given(3, 1), 512);
        ThrowReports y = from(2, 4, 8, 16, 32, 64, 128, 256, 512, 3, 5, ALL);
        y.report(y.act(NUMBER, 0, 0, 0, 0));
        int[] want = {2, 4, 8, 16, 32, 64, 128, 256, 512, 3, 5, ALL};
        for (int slot = 0; slot < 12; slot++) {
            Check.due("AHEAD of the first", y.ahead(0, slot), want[slot]);
        }
    }

    private static void refusals() {
        ThrowReports x = new ThrowReports();
        x.act(FAIL, 0, 0, 0, 0);
        x.guard(0, -1, -1, -1);
        x.report(1);
        for (int wrong : new int[] {MIN, -1, 2, 80, MAX}) {
            Check.due("report", x.report(wrong), BAD);
            Check.due("reached", x.reached(wrong), BAD);
            Check.due("may", x.may(wrong), BAD);
            Check.due("ahead", x.ahead(wrong, 0), BAD);
            Check.due("guarded", x.guarded(wrong, 0), BAD);
            Check.due("guarded", x.guarded(1, wrong), BAD);
        }
        for (int wrong : new int[] {MIN, -1, 12, 99, MAX}) {
            Check.due("ahead", x.ahead(0, wrong), BAD);
        }
        Check.due("guarded of no GUARD", x.guarded(0, 0), BAD);
        Check.due("guarded of no GUARD", x.guarded(0, 1), BAD);
        x.both(0, 0);
        x.choice(0, 0, 0, 0);
        Check.due("guarded of BOTH", x.guarded(2, 0), BAD);
        Check.due("guarded of a CHOICE", x.guarded(3, 0), BAD);
        Check.due("the REPORT stays", x.reached(0), 1);
        Check.due("the REPORT stays", x.may(1), END);
        Check.due("NODES since", x.reached(2), 0);
        Check.due("NODES since", x.may(2), 0);
        Check.due("NODES since", x.ahead(2, 0), 0);
    }

    private static void actsThatMake() {
        ThrowReports x = from(ALL, 5);
        for (int kind : new int[] {1, 2, 3, 4, 6, 7}) {
            Check.due("MAKE", mays(x, MAKE, 0, kind, 3, 0), END | ROOM);
            Check.due("MAKE leaves", behind(x, 0, MAKE, 0, kind, 3, 0)[0], 1 << kind);
            Check.due("MAKE leaves others", behind(x, 0, MAKE, 0, kind, 3, 0)[1], 5);
            Check.due("ROOM leaves all", behind(x, 8, MAKE, 0, kind, 3, 0)[0], ALL);
        }
        Check.due("MAKE of none", mays(x, MAKE, 0, 1, 0, 0), END | ROOM);
        Check.due("MAKE too much", mays(x, MAKE, 0, 1, MAX, 0), END | ROOM);
        Check.due("MAKE below 0", mays(x, MAKE, 0, 1, -1, 0), SIZE);
        Check.due("SIZE leaves all", behind(x, 4, MAKE, 0, 1, -1, 0)[0], ALL);
        Check.due("DEEP", mays(x, DEEP, 0, 1, 0, 0), END | ROOM);
        Check.due("DEEP leaves", behind(x, 0, DEEP, 0, 1, 0, 0)[0], set(5));
        Check.due("DEEP of none", mays(x, DEEP, 0, 0, 0, 0), END | ROOM);
        Check.due("DEEP below 0", mays(x, DEEP, 0, -1, 0, 0), SIZE);
        Check.due("DEEP below 0", mays(x, DEEP, 0, 0, -1, 0), SIZE);
        Check.due("THIN", mays(x, THIN, 0, 0, -1, 0), END | ROOM);
        Check.due("THIN leaves", behind(x, 0, THIN, 0, 0, -1, 0)[0], set(5));
        Check.due("THIN below 0", mays(x, THIN, 0, -1, 0, 0), SIZE);
        Check.due("FIGURE", mays(x, FIGURE, 0, 0, -1, 0), END | ROOM);
        Check.due("FIGURE leaves", behind(x, 0, FIGURE, 0, 0, -1, 0)[0], set(8));
        Check.due("ROUND leaves", behind(x, 0, FIGURE, 0, -1, -1, 0)[0], set(9));
    }

    private static void moves() {
        ThrowReports x = from(ALL, 5);
        Check.due("MOVE", mays(x, MOVE, 1, 0, 0, 0), END);
        Check.due("MOVE leaves", behind(x, 0, MOVE, 1, 0, 0, 0)[1], ALL);
        for (int kind = 1; kind <= 9; kind++) {
            int are = kind == 6 ? set(6, 7) : kind == 8 ? set(8, 9) : set(kind);
            Check.due("MOVE AS " + kind, mays(x, MOVE, 1, 0, kind, 0), END | UNLIKE);
            int[] after = behind(x, 0, MOVE, 1, 0, kind, 0);
            Check.due("leaves of the one", after[0], are | 1);
            Check.due("leaves of the other", after[1], are | 1);
            int[] failed = behind(x, 2, MOVE, 1, 0, kind, 0);
            Check.due("UNLIKE with", failed[0], ALL & ~are & ~1);
            Check.due("UNLIKE with the other", failed[1], 5);
        }
        Check.due("MOVE of NOTHING", mays(from(1), MOVE, 1, 0, 3, 0), END);
        Check.due("MOVE of what it is", mays(from(set(7)), MOVE, 1, 0, 6, 0), END);
        Check.due("MOVE of what it is not", mays(from(set(6)), MOVE, 1, 0, 7, 0), UNLIKE);
        Check.due("MOVE to itself", behind(from(ALL), 0, MOVE, 0, 0, 9, 0)[0], set(0, 9));
    }

    private static void rows() {
        ThrowReports x = from(ALL, ALL);
        Check.due("GET", mays(x, GET, 0, 0, 2, 0), END | UNLIKE | NOTHING | PLACE);
        Check.due("GET leaves", behind(x, 0, GET, 0, 0, 2, 0)[0], set(2));
        Check.due("GET leaves the other", behind(x, 0, GET, 0, 0, 2, 0)[1], ALL);
        Check.due("GET NOTHING with", behind(x, 1, GET, 0, 0, 2, 0)[0], set(0));
        Check.due("GET UNLIKE with", behind(x, 2, GET, 0, 0, 2, 0)[0], ALL & ~set(0, 2));
        Check.due("GET PLACE with", behind(x, 3, GET, 0, 0, 2, 0)[0], set(2));
        Check.due("GET of a row", mays(from(set(2)), GET, 0, 0, 2, -1), END | PLACE);
        Check.due("GET of NOTHING", mays(from(1), GET, 0, 0, 2, 0), NOTHING);
        Check.due("GET of others", mays(from(set(1, 3)), GET, 0, 0, 2, 0), UNLIKE);
        Check.due("GET of others or NOTHING", mays(from(set(0, 3)), GET, 0, 0, 2, 0), UNLIKE | NOTHING);
        Check.due("SET", mays(x, SET, 0, 4, 0, 0), END | UNLIKE | NOTHING | PLACE);
        Check.due("SET leaves", behind(x, 0, SET, 0, 4, 0, 0)[0], set(4));
        Check.due("LENGTH", mays(x, LENGTH, 0, 0, 6, 0), END | UNLIKE | NOTHING);
        Check.due("LENGTH leaves", behind(x, 0, LENGTH, 0, 0, 6, 0)[0], set(6, 7));
        Check.due("CLONE", mays(x, CLONE, 1, 0, 0, 0), END | UNLIKE | NOTHING | ROOM);
        Check.due("CLONE leaves", behind(x, 0, CLONE, 1, 0, 0, 0)[1], set(1));
        Check.due("CLONE leaves of the one", behind(x, 0, CLONE, 1, 0, 0, 0)[0], set(1));
        Check.due("CLONE ROOM with", behind(x, 8, CLONE, 1, 0, 0, 0)[1], ALL);
        Check.due("CLONE of NOTHING", mays(from(1), CLONE, 1, 0, 0, 0), NOTHING);
        Check.due("TELLS", mays(x, TELLS, 0, 0, 0, 0), END | UNLIKE | NOTHING);
        Check.due("TELLS leaves", behind(x, 0, TELLS, 0, 0, 0, 0)[0], set(8, 9));
        Check.due("TELLS UNLIKE with", behind(x, 2, TELLS, 0, 0, 0, 0)[0], ALL & ~set(0, 8, 9));
    }

    private static void takes() {
        ThrowReports x = from(ALL, set(2));
        Check.due("TAKE", mays(x, TAKE, 1, 0, 5, 0), END | UNLIKE | NOTHING | PLACE);
        Check.due("TAKE AS 5", behind(x, 0, TAKE, 1, 0, 5, 0)[1], set(0, 1));
        Check.due("TAKE AS 6", behind(x, 0, TAKE, 1, 0, 6, 0)[1], set(0, 8, 9));
        Check.due("TAKE AS 7", behind(x, 0, TAKE, 1, 0, 7, 0)[1], set(0, 9));
        Check.due("TAKE AS 6 of ROUNDS", behind(from(set(0, 7)), 0, TAKE, 1, 0, 6, 0)[1], set(0, 9));
        Check.due("TAKE AS 6 of FIGURES", behind(from(set(6)), 0, TAKE, 1, 0, 6, 0)[1], set(0, 8, 9));
        Check.due("TAKE to its own SLOT", behind(x, 0, TAKE, 0, 0, 6, 0)[0], set(0, 8, 9));
        Check.due("TAKE leaves of the one", behind(x, 0, TAKE, 1, 0, 6, 0)[0], set(6, 7));
        Check.due("TAKE PLACE with", behind(x, 3, TAKE, 1, 0, 6, 0)[1], set(2));
    }

    private static void lays() {
        ThrowReports x = from(ALL, ALL);
        Check.due("LAY AS 5", mays(x, LAY, 0, 5, 0, 1), END | UNLIKE | NOTHING | PLACE);
        Check.due("LAY AS 6", mays(x, LAY, 0, 6, 0, 1), END | UNLIKE | NOTHING | PLACE | STORE);
        Check.due("LAY AS 7", mays(x, LAY, 0, 7, 0, 1), END | UNLIKE | NOTHING | PLACE);
        int[] failed = behind(x, 2, LAY, 0, 6, 0, 1);
        Check.due("UNLIKE of one with all, of the other with what is left", failed[0], ALL);
        Check.due("UNLIKE of the other", failed[1], ALL);
        failed = behind(from(set(6), ALL), 2, LAY, 0, 6, 0, 1);
        Check.due("UNLIKE of the other alone", failed[1], ALL & ~set(0, 8, 9));
        failed = behind(x, 1, LAY, 0, 6, 0, 1);
        Check.due("NOTHING with", failed[0], set(0));
        Check.due("NOTHING with", failed[1], set(0, 8, 9));
        failed = behind(x, 3, LAY, 0, 6, 0, 1);
        Check.due("PLACE with", failed[0], set(6, 7));
        Check.due("PLACE with", failed[1], set(0, 8, 9));
        failed = behind(from(set(6, 7), set(0, 8)), 5, LAY, 0, 6, 0, 1);
        Check.due("STORE with the STATE as it is", failed[0], set(6, 7));
        Check.due("STORE with the STATE as it is", failed[1], set(0, 8));
        laysLeave(set(6, 7), set(8, 9), set(6, 7), set(8, 9));
        laysLeave(set(6, 7), set(8), set(6), set(8));
        laysLeave(set(7), set(0, 8), set(7), set(0));
        laysLeave(set(7), set(8, 9), set(7), set(9));
        laysLeave(set(7), set(8), 0, 0);
        laysLeave(set(6), set(8), set(6), set(8));
        laysLeave(set(0, 7), set(8), 0, 0);
        Check.due("LAY that can but fail", mays(from(set(7), set(8)), LAY, 0, 6, 0, 1), PLACE | STORE);
        Check.due("LAY of FIGURES", mays(from(set(6), set(8)), LAY, 0, 6, 0, 1), END | PLACE);
        Check.due("LAY of ROUNDS", mays(from(set(7), set(0, 9)), LAY, 0, 6, 0, 1), END | PLACE);
        Check.due("LAY in itself", mays(x, LAY, 0, 6, 0, 0), UNLIKE | NOTHING);
    }

    private static void laysLeave(int row, int laid, int rowLeft, int laidLeft) {
        int[] left = behind(from(row, laid), 0, LAY, 0, 6, 0, 1);
        Check.due("LAY " + laid + " to " + row + " leaves", left[0], rowLeft);
        Check.due("LAY " + laid + " to " + row + " leaves of what is laid", left[1], laidLeft);
    }

    private static boolean meet(int one, int other) {
        return one == other && one > 0 && one < 8 || one > 4 && one < 8 && other > 4 && other < 8;
    }

    private static void copies() {
        for (int one = 0; one <= 9; one++) {
            for (int other = 0; other <= 9; other++) {
                int want = END | PLACE;
                if (one == 0 || other == 0) {
                    want = NOTHING;
                } else if (!meet(one, other)) {
                    want = STORE;
                } else if (one != other && !(one == 7 && other == 6)) {
                    want = END | STORE | PLACE;
                }
                Check.due("COPY " + one + " to " + other, mays(from(1 << one, 1 << other), COPY, 0, 0, 1, 0), want);
            }
        }
        ThrowReports x = from(ALL, set(0, 3, 7));
        Check.due("COPY", mays(x, COPY, 0, 0, 1, 0), END | NOTHING | STORE | PLACE);
        copyShows(x, 0, set(3, 5, 6, 7), set(3, 7));
        copyShows(x, 1, ALL, set(0, 3, 7));
        copyShows(x, 5, ALL & ~1, set(3, 7));
        copyShows(x, 3, set(3, 5, 6, 7), set(3, 7));
        x = from(set(0, 3, 7), ALL);
        copyShows(x, 0, set(3, 7), set(3, 5, 6, 7));
        copyShows(x, 5, set(3, 7), ALL & ~1);
        copyShows(x, 3, set(3, 7), set(3, 5, 6, 7));
        x = from(set(1, 8), set(2, 9));
        Check.due("COPY of those that do not MEET", mays(x, COPY, 0, 0, 1, 0), STORE);
        copyShows(x, 5, set(1, 8), set(2, 9));
        x = from(set(0, 1), set(0));
        Check.due("COPY to NOTHING", mays(x, COPY, 0, 0, 1, 0), NOTHING);
        copyShows(x, 1, set(0, 1), set(0));
        Check.due("COPY in one SLOT", mays(from(set(2)), COPY, 0, 0, 0, 0), END | PLACE);
        Check.due("COPY in one SLOT of two KINDS", mays(from(set(0, 1, 2)), COPY, 0, 0, 0, 0), END | NOTHING | STORE | PLACE);
        Check.due("COPY in one SLOT of FIGURES", mays(from(set(8)), COPY, 0, 0, 0, 0), STORE);
    }

    private static void copyShows(ThrowReports x, int way, int one, int other) {
        int[] sets = behind(x, way, COPY, 0, 0, 1, 0);
        Check.due("COPY, way " + way + ", of the one", sets[0], one);
        Check.due("COPY, way " + way + ", of the other", sets[1], other);
    }

    private static void reckons() {
        ThrowReports x = from(ALL);
        Check.due("NUMBER", mays(x, NUMBER, 0, 0, 0, 0), END);
        Check.due("ADD", mays(x, ADD, 0, 0, 0, 0), END);
        Check.due("DIVIDE", mays(x, DIVIDE, 0, 0, 0, 0), END | ZERO);
        Check.due("REST", mays(x, REST, 0, 0, 0, 0), END | ZERO);
        Check.due("FAIL", mays(x, FAIL, 0, 0, 0, 0), OWN);
        Check.due("DIVIDE leaves", behind(x, 0, DIVIDE, 0, 0, 0, 0)[0], ALL);
        Check.due("ZERO with", behind(x, 6, REST, 0, 0, 0, 0)[0], ALL);
        Check.due("OWN with", behind(x, 7, FAIL, 0, 0, 0, 0)[0], ALL);
    }

    private static void afterFailures() {
        ThrowReports x = from(ALL);
        int[] none = behind(x, 0, FAIL, 0, 0, 0, 0);
        for (int slot = 0; slot < 12; slot++) {
            Check.due("AHEAD of what is not REACHED", none[slot], 0);
        }
        Check.due("not REACHED", x.reached(1), 0);
        Check.due("MAY nothing", x.may(1), 0);
    }

    private static void bothNodes() {
        ThrowReports x = from(ALL);
        int get = x.act(GET, 0, 0, 1, 0);
        int set = x.act(SET, 0, 1, 0, 0);
        int make = x.act(MAKE, 0, 2, 1, 0);
        int first = x.both(get, set);
        Check.due("BOTH", x.report(first), END | NOTHING | UNLIKE | PLACE);
        Check.due("the second is safe by the first", x.may(set), END | PLACE);
        Check.due("AHEAD of it", x.ahead(set, 0), set(1));
        int second = x.both(make, get);
        Check.due("BOTH", x.report(second), UNLIKE | ROOM);
        Check.due("AHEAD of it", x.ahead(get, 0), set(2));
        Check.due("not in this REPORT", x.reached(set), 0);
        Check.due("not in this REPORT", x.reached(first), 0);
        Check.due("not in this REPORT", x.ahead(first, 0), 0);
        Check.due("not in this REPORT", x.may(first), 0);
    }

    private static void choices() {
        for (int kind = 0; kind <= 9; kind++) {
            ThrowReports x = from(5, ALL);
            int one = x.act(NUMBER, 0, 1, 0, 0);
            int other = x.act(FAIL, 0, 0, 0, 0);
            int are = kind == 6 ? set(6, 7) : kind == 8 ? set(8, 9) : set(kind);
            int choice = x.choice(1, kind, one, other);
            Check.due("CHOICE", x.report(choice), END | OWN);
            Check.due("AHEAD of the one", x.ahead(one, 1), are);
            Check.due("AHEAD of the other", x.ahead(other, 1), ALL & ~are);
            Check.due("AHEAD of other SLOTS", x.ahead(other, 0), 5);
            x.given(1, are);
            Check.due("CHOICE of those", x.report(choice), END);
            Check.due("the other is not gone", x.reached(other), 0);
            x.given(1, ALL & ~are);
            Check.due("CHOICE of others", x.report(choice), OWN);
            Check.due("the one is not gone", x.reached(one), 0);
        }
    }

    private static void handlers() {
        ThrowReports x = from(set(0, 1, 2));
        int get = x.act(GET, 0, 0, 1, 0);
        int probe = x.act(DIVIDE, 0, 0, 0, 0);
        int next = x.act(NUMBER, 0, 0, 0, 0);
        int two = x.guard(get, NOTHING | UNLIKE, probe, -1);
        Check.due("GUARD", x.report(x.both(two, next)), END | PLACE | ZERO);
        Check.due("FAILURES put together", x.ahead(probe, 0), set(0, 2));
        Check.due("ways to END put together", x.ahead(next, 0), set(0, 1, 2));
        int bare = x.guard(get, UNLIKE, -1, -1);
        Check.due("without HANDLER", x.report(x.both(bare, next)), END | NOTHING | PLACE);
        Check.due("it ENDS", x.ahead(next, 0), set(1, 2));
        int vain = x.guard(get, SIZE | STORE, probe, -1);
        Check.due("nothing taken", x.report(vain), END | NOTHING | UNLIKE | PLACE);
        Check.due("HANDLER not REACHED", x.reached(probe), 0);
        int fail = x.act(FAIL, 0, 0, 0, 0);
        Check.due("HANDLER fails by the same", x.report(x.guard(fail, OWN, fail, -1)), OWN);
        Check.due("bit 0 is not looked at", x.report(x.guard(next, -1, fail, -1)), END);
        Check.due("END does not come to the HANDLER", x.reached(fail), 0);
        Check.due("no failure is left", x.report(x.guard(fail, OWN, -1, -1)), END);
    }

    private static void lastParts() {
        ThrowReports x = from(set(0, 1, 2));
        int get = x.act(GET, 0, 0, 1, 0);
        int probe = x.act(NUMBER, 0, 0, 0, 0);
        int zero = x.act(DIVIDE, 0, 0, 0, 0);
        int fail = x.act(FAIL, 0, 0, 0, 0);
        int make = x.act(MAKE, 0, 3, 1, 0);
        int quiet = x.guard(get, 0, -1, probe);
        Check.due("a quiet LAST PART", x.report(quiet), END | NOTHING | UNLIKE | PLACE);
        Check.due("AHEAD of it", x.ahead(probe, 0), set(0, 1, 2));
        Check.due("none LOST", x.guarded(quiet, 1), 0);
        int loud = x.guard(get, 0, -1, zero);
        Check.due("a LAST PART that may fail", x.report(loud), END | NOTHING | UNLIKE | PLACE | ZERO);
        Check.due("LOST", x.guarded(loud, 1), NOTHING | UNLIKE | PLACE);
        int always = x.guard(get, 0, -1, fail);
        Check.due("a LAST PART that fails", x.report(always), OWN);
        Check.due("LOST", x.guarded(always, 1), NOTHING | UNLIKE | PLACE);
        int made = x.guard(get, NOTHING, -1, make);
        Check.due("a LAST PART that makes", x.report(x.both(x.guard(made, -1, -1, -1), probe)), END);
        Check.due("leaves what it made, or not", x.ahead(probe, 0), set(0, 1, 2, 3));
        Check.due("LOST", x.guarded(made, 1), UNLIKE | PLACE);
        int caught = x.guard(made, 1 << 3 | 1 << 2, probe, -1);
        Check.due("after the LAST PART", x.report(caught), END | ROOM);
        Check.due("ways go on with its STATE", x.ahead(probe, 0), set(3));
    }

    private static void vainAndLost() {
        ThrowReports x = from(set(0, 1));
        int get = x.act(GET, 0, 0, 1, 0);
        int fail = x.act(FAIL, 0, 0, 0, 0);
        int cast = x.act(MOVE, 1, 0, 1, 0);
        int tell = x.act(LENGTH, 1, 0, 1, 0);
        int all = x.guard(get, -1, -1, -1);
        x.report(all);
        Check.due("VAIN", x.guarded(all, 0), 510 & ~NOTHING & ~PLACE);
        int none = x.guard(get, 0, -1, -1);
        x.report(none);
        Check.due("VAIN of none", x.guarded(none, 0), 0);
        Check.due("another GUARD is not REACHED", x.guarded(all, 0), 0);
        int handled = x.guard(get, NOTHING | PLACE | OWN, fail, tell);
        Check.due("GUARD", x.report(handled), END | NOTHING | OWN);
        Check.due("VAIN", x.guarded(handled, 0), OWN);
        Check.due("LOST of the HANDLER", x.guarded(handled, 1), OWN);
        int safe = x.guard(get, 0, -1, tell);
        Check.due("GUARD", x.report(safe), END | NOTHING | PLACE);
        Check.due("LOST on the ways where the LAST PART may fail", x.guarded(safe, 1), NOTHING);
        int end = x.guard(cast, 0, -1, fail);
        Check.due("GUARD", x.report(end), OWN);
        Check.due("an END is not LOST", x.guarded(end, 1), 0);
    }

    private static void vainByTheGuardsOwnTimes() {
        ThrowReports x = from(set(0, 1));
        int length = x.act(LENGTH, 1, 0, 1, 0);
        int guard = x.guard(length, NOTHING, -1, -1);
        int root = x.both(length, guard);
        Check.due("BODY used ahead of the GUARD", x.report(root), END | NOTHING);
        Check.due("BODY may fail", x.may(length), END | NOTHING);
        Check.due("but not in the GUARD", x.guarded(guard, 0), NOTHING);
        int clear = x.act(MOVE, 0, 5, 0, 0);
        int again = x.both(root, x.both(clear, guard));
        Check.due("the GUARD twice", x.report(again), END | NOTHING);
        Check.due("not VAIN at one time", x.guarded(guard, 0), 0);
        int make = x.act(MAKE, 0, 1, 1, 0);
        int before = x.both(guard, x.both(make, guard));
        Check.due("the GUARD twice", x.report(before), END | ROOM);
        Check.due("not VAIN at the first time", x.guarded(guard, 0), 0);
    }

    private static void reportsAnew() {
        ThrowReports x = from(set(0, 1), set(2));
        int length = x.act(LENGTH, 1, 0, 1, 0);
        int make = x.act(MAKE, 0, 1, 1, 0);
        int fail = x.act(FAIL, 0, 0, 0, 0);
        int probe = x.act(NUMBER, 0, 0, 0, 0);
        int body = x.choice(1, 2, length, make);
        int guard = x.guard(body, NOTHING | ROOM, probe, -1);
        int lost = x.guard(body, 0, -1, x.choice(1, 2, fail, probe));
        Check.due("report", x.report(guard), END);
        Check.due("VAIN", x.guarded(guard, 0), ROOM);
        Check.due("HANDLER after NOTHING", x.ahead(probe, 0), set(0));
        x.given(1, set(3));
        Check.due("report anew", x.report(guard), END);
        Check.due("VAIN anew", x.guarded(guard, 0), NOTHING);
        Check.due("HANDLER after ROOM", x.ahead(probe, 0), set(0, 1));
        x.given(1, set(2));
        x.given(0, set(1));
        Check.due("report anew", x.report(body), END);
        Check.due("report anew", x.report(guard), END);
        Check.due("VAIN anew", x.guarded(guard, 0), NOTHING | ROOM);
        Check.due("HANDLER not REACHED", x.reached(probe), 0);
        x.given(0, set(0, 1));
        Check.due("report", x.report(lost), OWN);
        Check.due("LOST", x.guarded(lost, 1), NOTHING);
        x.given(1, set(2, 3));
        Check.due("report", x.report(lost), END | OWN | ROOM);
        Check.due("LOST on that way alone", x.guarded(lost, 1), NOTHING);
        x.given(1, set(3));
        Check.due("report anew", x.report(lost), END | ROOM);
        Check.due("LOST anew", x.guarded(lost, 1), 0);
    }

    private static void lostByRoom() {
        ThrowReports x = from(set(0, 1));
        int make = x.act(MAKE, 0, 2, 1, 0);
        int length = x.act(LENGTH, 0, 0, 2, 0);
        int guard = x.guard(make, 0, -1, length);
        Check.due("report", x.report(guard), END | NOTHING | UNLIKE);
        Check.due("LOST", x.guarded(guard, 1), ROOM);
        Check.due("AHEAD of the LAST PART", x.ahead(length, 0), set(0, 1, 2));
    }

    private static void nodesUsedTwice() {
        ThrowReports x = from(set(0, 1, 2));
        int length = x.act(LENGTH, 0, 0, 1, 0);
        int guard = x.guard(length, NOTHING | UNLIKE, length, -1);
        Check.due("BODY as HANDLER", x.report(guard), END | NOTHING | UNLIKE);
        Check.due("AHEAD put together", x.ahead(length, 0), set(0, 1, 2));
        int make = x.act(MAKE, 0, 1, 1, 0);
        int twice = x.both(x.both(make, length), x.both(make, length));
        Check.due("twice", x.report(twice), END | ROOM);
        Check.due("AHEAD put together", x.ahead(make, 0), set(0, 1, 2));
        Check.due("AHEAD put together", x.ahead(length, 0), set(1));
        int choice = x.choice(0, 2, length, length);
        Check.due("both ways one NODE", x.report(choice), END | NOTHING | UNLIKE);
        Check.due("AHEAD put together", x.ahead(length, 0), set(0, 1, 2));
    }

    private static void latestReport() {
        ThrowReports x = from(set(1));
        int length = x.act(LENGTH, 0, 0, 1, 0);
        Check.due("report", x.report(length), END);
        x.given(0, 1);
        x.run(length);
        Check.due("AHEAD as it was", x.ahead(length, 0), set(1));
        Check.due("MAY as it was", x.may(length), END);
        Check.due("report", x.report(length), NOTHING);
        Check.due("AHEAD anew", x.ahead(length, 0), 1);
        Check.due("MAY anew", x.may(length), NOTHING);
        x.forget();
        x.act(LENGTH, 0, 0, 1, 0);
        Check.due("no REPORT", x.reached(0), 0);
    }
}

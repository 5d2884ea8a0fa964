/** Promises 7 to 14: runs, and what is seen of SLOTS, items and REGISTERS, at their edges. */
public final class LookEdgesTest extends Words {
    private static final int[] FAR = {MIN, MIN + 1, -2, -1, MAX - 1, MAX};

    public static void main(String[] args) {
        runsAnswer();
        ranBeforeRun();
        ranOfTheLatest();
        ranStays();
        clearsAll();
        clearsLeave();
        slotsTell();
        itemsTell();
        itemsOfThings();
        registersTell();
        alikeTheSame();
        alikeRows();
        alikeDoubles();
        alikeFigures();
        alikeRowsOfRows();
        alikeRowsOfFigures();
        looksLeaveAll();
        reportsLeaveTheMachine();
        objectsAreTheirOwn();
        Check.end();
    }

    private static void runsAnswer() {
        Check.by("Promise 7, A NODE is done: 0, or what it failed by.");
        int[][] acts = {{NUMBER, 0, 0, 0, 0}, {LENGTH, 0, 0, 1, 0}, {LENGTH, 0, 1, 2, 0}, {GET, 0, 1, 1, -1}, {MAKE, 0, 1, -1, 0},
            {LAY, 7, 6, 0, 8}, {REST, 0, 1, 1, 0}, {FAIL, 0, 0, 0, 0}, {THIN, 0, 3001, 0, 0}};
        for (int failure = 0; failure <= ROOM; failure++) {
            ThrowReports x = oneOfEach();
            int[] act = acts[failure];
            int node = x.act(act[0], act[1], act[2], act[3], act[4]);
            Check.due("run", x.run(node), failure);
            Check.due("run again", x.run(node), failure);
            Check.due("ACTS begun", x.ran(0), 1);
            Check.due("ACTS that failed", x.ran(1), failure == 0 ? 0 : 1);
            Check.due("the latest that failed", x.ran(5), failure == 0 ? -1 : node);
        }
    }

    private static void ranBeforeRun() {
        Check.by("Promise 8, Of the latest run() (0 before one) .. (-1: none did; also before a run())");
        ThrowReports x = new ThrowReports();
        for (int times = 0; times < 3; times++) {
            for (int what = 0; what < 5; what++) {
                Check.due("ran(" + what + ")", x.ran(what), 0);
            }
            Check.due("ran(5)", x.ran(5), -1);
            if (times == 0) {
                x.act(FAIL, 0, 0, 0, 0);
                x.report(0);
                x.clear();
            } else {
                Check.due("run refused", x.run(1), BAD);
            }
        }
    }

    private static void hasRan(String what, ThrowReports x, int... want) {
        for (int i = 0; i < 6; i++) {
            Check.due(what + ", ran(" + i + ")", x.ran(i), want[i]);
        }
    }

    private static void ranOfTheLatest() {
        Check.by("Promise 8, Of the latest run()");
        ThrowReports x = new ThrowReports();
        int make = x.act(MAKE, 0, 1, 3, 0);
        int two = x.act(NUMBER, 7, 2, 0, 0);
        int copy = x.act(COPY, 0, 0, 0, 1);
        int own = x.act(FAIL, 0, 0, 0, 0);
        int lost = x.guard(own, 0, -1, own);
        x.run(x.both(make, two));
        hasRan("no failure", x, 2, 0, 0, 0, 0, -1);
        x.run(x.both(copy, lost));
        hasRan("all of them", x, 3, 2, 2, 1, 1, own);
        x.run(copy);
        hasRan("a COPY", x, 1, 0, 2, 0, 0, -1);
        x.run(lost);
        hasRan("a LAST PART", x, 2, 2, 0, 1, 1, own);
        x.run(two);
        hasRan("none of them", x, 1, 0, 0, 0, 0, -1);
        x.run(x.guard(own, -1, two, two));
        hasRan("a failure that is taken", x, 3, 1, 0, 1, 0, own);
    }

    private static void ranStays() {
        Check.by("Promise 8, Of the latest run()");
        ThrowReports x = new ThrowReports();
        x.act(NUMBER, 0, 1, 0, 0);
        x.guard(x.act(FAIL, 0, 0, 0, 0), 0, -1, 1);
        x.run(2);
        hasRan("run", x, 2, 2, 0, 1, 1, 1);
        x.run(3);
        x.report(0);
        x.clear();
        x.act(NUMBER, 0, 1, 0, 0);
        hasRan("after calls that are no run", x, 2, 2, 0, 1, 1, 1);
        x.forget();
        x.run(0);
        hasRan("after forget()", x, 2, 2, 0, 1, 1, 1);
    }

    private static void clearsAll() {
        Check.by("Promise 9, SLOTS and REGISTERS are as at first, THINGS go: how many there were.");
        ThrowReports x = new ThrowReports();
        String first = Seen.ofMachine(x);
        Check.due("clear of none", x.clear(), 0);
        Check.same("as at first", Seen.ofMachine(x), first);
        x = oneOfEach();
        for (int r = 0; r < 8; r++) {
            does(x, NUMBER, r, -1 - r, 0);
        }
        for (int slot = 10; slot < 12; slot++) {
            does(x, DEEP, slot, 2, 3);
        }
        does(x, MOVE, 0, 9, 0);
        Check.due("clear", x.clear(), 9 + 6);
        Check.same("as at first", Seen.ofMachine(x), first);
        Check.due("clear again", x.clear(), 0);
        does(x, DEEP, 0, 199, 0);
        Check.due("clear of 200", x.clear(), 200);
        does(x, FIGURE, 0, 0, 0);
        Check.due("clear of one", x.clear(), 1);
    }

    private static void clearsLeave() {
        Check.by("Promise 9, SLOTS and REGISTERS are as at first, THINGS go");
        ThrowReports x = new ThrowReports();
        int make = x.act(MAKE, 0, 1, 3, 0);
        int guard = x.guard(make, -1, -1, make);
        x.given(0, ALL);
        x.run(guard);
        x.report(guard);
        String nodes = Seen.ofNodes(x);
        String start = Seen.ofStart(x);
        String ran = Seen.ofRun(x);
        Check.due("clear", x.clear(), 2);
        Check.same("NODES and the REPORT", Seen.ofNodes(x), nodes);
        Check.same("START", Seen.ofStart(x), start);
        Check.same("what ran", Seen.ofRun(x), ran);
    }

    private static void slotsTell() {
        Check.by("Promise 11, 0 the THING's number (0: NOTHING), 1 its KIND (0), 2 its length, or NUMBER (0).");
        ThrowReports x = oneOfEach();
        for (int slot = 0; slot < 12; slot++) {
            int kind = slot <= 9 ? slot : 0;
            Check.due("number", x.slot(slot, 0), kind);
            Check.due("KIND", x.slot(slot, 1), kind);
            Check.due("length, or NUMBER", x.slot(slot, 2), kind == 0 ? 0 : kind <= 7 ? 3 : 5);
        }
        for (int number : new int[] {MIN, -1, 0, MAX}) {
            does(x, FIGURE, 10, 0, number);
            does(x, FIGURE, 11, 1, number);
            Check.due("NUMBER", x.slot(10, 2), number);
            Check.due("NUMBER", x.slot(11, 2), number);
        }
        for (int kind = 1; kind <= 7; kind++) {
            makeOne(x, 0, kind, 0);
            Check.due("length 0", x.slot(0, 2), 0);
            Check.due("KIND", x.slot(0, 1), kind);
        }
    }

    private static void itemsTell() {
        Check.by("Promise 12, of numbers that .. 0: it is no row, or has no such item, or there is no such SLOT.");
        ThrowReports x = oneOfEach();
        does(x, NUMBER, 0, -7, 0);
        for (int kind = 1; kind <= 3; kind++) {
            for (int i = 0; i < 3; i++) {
                does(x, SET, kind, kind, i, 0);
            }
            hasItems("KIND " + kind, x, kind, -7, -7, -7);
            for (int i : FAR) {
                Check.due("item " + i, x.item(kind, i), 0);
            }
            Check.due("item 3", x.item(kind, 3), 0);
        }
        for (int slot : new int[] {0, 8, 9, 10}) {
            for (int i : new int[] {MIN, -1, 0, 1, 4, 5, MAX}) {
                Check.due("SLOT " + slot + ", no row", x.item(slot, i), 0);
            }
        }
        for (int slot : new int[] {MIN, -1, 12, 13, MAX}) {
            Check.due("no SLOT", x.item(slot, 0), 0);
        }
    }

    /** A row at the end of others, whose places behind it hold something. */
    private static void itemsOfThings() {
        Check.by("Promise 12, of others the THING's number. 0: it .. has no such item");
        ThrowReports x = oneOfEach();
        does(x, LAY, 5, 5, 0, 1);
        does(x, LAY, 6, 6, 0, 8);
        does(x, LAY, 6, 6, 1, 9);
        does(x, LAY, 7, 7, 2, 9);
        hasItems("rows", x, 5, 1, 0, 0, 0);
        hasItems("FIGURES", x, 6, 8, 9, 0, 0);
        hasItems("ROUNDS", x, 7, 0, 0, 9, 0);
        Check.due("behind the rows there are FIGURES", x.item(5, 3), 0);
        Check.due("ahead of the FIGURES there are rows", x.item(6, -3), 0);
        for (int kind = 5; kind <= 7; kind++) {
            for (int i : FAR) {
                Check.due("item " + i, x.item(kind, i), 0);
            }
        }
    }

    private static void registersTell() {
        Check.by("Promise 13, A REGISTER; 0: there is no such one.");
        ThrowReports x = new ThrowReports();
        for (int r = 0; r < 8; r++) {
            does(x, NUMBER, r, r + 1, 0);
        }
        for (int r = 0; r < 8; r++) {
            Check.due("REGISTER " + r, x.register(r), r + 1);
        }
        for (int r : new int[] {MIN, -8, -1, 8, 9, 15, 16, MAX}) {
            Check.due("REGISTER " + r, x.register(r), 0);
        }
    }

    private static void alikeTheSame() {
        Check.by("Promise 14, Whether two SLOTS hold the same THING, or both NOTHING (1)");
        ThrowReports x = oneOfEach();
        for (int slot = 0; slot < 12; slot++) {
            Check.due("a SLOT and itself", x.alike(slot, slot), 1);
        }
        Check.due("both NOTHING", x.alike(0, 11), 1);
        for (int slot = 1; slot <= 9; slot++) {
            Check.due("a THING and NOTHING", x.alike(slot, 0), 0);
            Check.due("NOTHING and a THING", x.alike(0, slot), 0);
            does(x, MOVE, 10, slot, 0);
            Check.due("the same THING", x.alike(slot, 10), 1);
            Check.due("the same THING", x.alike(10, slot), 1);
            for (int other = 1; other <= 9; other++) {
                Check.due("THINGS of KINDS " + slot + " and " + other, x.alike(slot, other), slot == other ? 1 : 0);
            }
        }
    }

    private static void areAlike(String what, ThrowReports x, int want) {
        Check.due(what, x.alike(0, 1), want);
        Check.due(what + ", the other way", x.alike(1, 0), want);
    }

    private static void alikeRows() {
        Check.by("Promise 14, THINGS that are alike (2): of one KIND with the same items");
        for (int kind = 1; kind <= 7; kind++) {
            ThrowReports x = new ThrowReports();
            makeOne(x, 0, kind, 0);
            makeOne(x, 1, kind, 0);
            areAlike("empty rows of KIND " + kind, x, 2);
            makeOne(x, 1, kind, 1);
            areAlike("rows of 0 and 1 items", x, 0);
            for (int other = 1; other <= 7; other++) {
                makeOne(x, 1, other, 0);
                areAlike("empty rows of KINDS " + kind + " and " + other, x, kind == other ? 2 : 0);
            }
        }
        for (int kind = 1; kind <= 4; kind++) {
            for (int i = 0; i < 3; i++) {
                ThrowReports x = new ThrowReports();
                makeOne(x, 0, kind, 3);
                makeOne(x, 1, kind, 3);
                does(x, NUMBER, 0, 1, 0);
                areAlike("rows of three", x, 2);
                does(x, SET, 0, kind, i, 0);
                areAlike("another item " + i, x, 0);
                does(x, SET, 1, kind, i, 0);
                areAlike("the same items", x, 2);
            }
        }
    }

    private static void alikeDoubles() {
        Check.by("Promise 14, doubles by what is told of them");
        long none = 0x7FF8000000000000L;
        long[][] pairs = {{none, none, 2}, {-1, none, 2}, {0x7FF0000000000001L, 0xFFFFFFFF00000000L, 2}, {0, Long.MIN_VALUE, 0},
            {0x7FF0000000000000L, 0xFFF0000000000000L, 0}, {0x7FF0000000000000L, none, 0}, {1, 2, 0}, {1, 1, 2}};
        for (long[] pair : pairs) {
            ThrowReports x = new ThrowReports();
            for (int slot = 0; slot < 2; slot++) {
                does(x, MAKE, slot, 4, 2);
                put(x, 0, pair[slot]);
                does(x, SET, slot, 4, 1, 0);
            }
            areAlike(Long.toHexString(pair[0]) + " and " + Long.toHexString(pair[1]), x, (int) pair[2]);
        }
    }

    private static void alikeFigures() {
        Check.by("Promise 14, THINGS that are alike (2): of one KIND with the same items, or NUMBER");
        int[] numbers = {MIN, -1, 0, 1, MAX};
        for (int one : numbers) {
            for (int other : numbers) {
                ThrowReports x = new ThrowReports();
                does(x, FIGURE, 0, 0, one);
                does(x, FIGURE, 1, 0, other);
                areAlike("FIGURES", x, one == other ? 2 : 0);
                does(x, FIGURE, 0, 1, one);
                areAlike("a ROUND and a FIGURE", x, 0);
                does(x, FIGURE, 1, 1, other);
                areAlike("ROUNDS", x, one == other ? 2 : 0);
                does(x, FIGURE, 1, 0, 2 * one + 1);
                areAlike("a FIGURE that TELLS the same", x, 0);
            }
        }
        ThrowReports x = new ThrowReports();
        does(x, FIGURE, 0, 0, 0);
        does(x, MAKE, 1, 1, 0);
        areAlike("a FIGURE and an empty row", x, 0);
        does(x, MOVE, 1, 11, 0);
        areAlike("a FIGURE of 0 and NOTHING", x, 0);
        does(x, MAKE, 0, 1, 0);
        areAlike("an empty row and NOTHING", x, 0);
    }

    private static void alikeRowsOfRows() {
        Check.by("Promise 14, rows in rows alike, or the same");
        ThrowReports x = new ThrowReports();
        does(x, DEEP, 0, 2, 2);
        does(x, DEEP, 1, 2, 2);
        areAlike("rows in rows alike", x, 2);
        does(x, TAKE, 2, 1, 5, 1);
        does(x, NUMBER, 0, 1, 0);
        does(x, SET, 2, 1, 1, 0);
        areAlike("rows in rows not alike", x, 0);
        does(x, LAY, 0, 5, 1, 2);
        areAlike("rows in rows the same", x, 2);
        does(x, LAY, 0, 5, 0, 11);
        areAlike("NOTHING in one", x, 0);
        does(x, LAY, 1, 5, 0, 11);
        areAlike("NOTHING in both", x, 2);
        does(x, MAKE, 3, 1, 0);
        does(x, LAY, 1, 5, 0, 3);
        areAlike("NOTHING and an empty row", x, 0);
        does(x, MAKE, 3, 1, 0);
        does(x, LAY, 0, 5, 0, 3);
        areAlike("empty rows in rows", x, 2);
        does(x, MAKE, 3, 1, 1);
        does(x, LAY, 0, 5, 0, 3);
        areAlike("a row of 1 and an empty row", x, 0);
        does(x, DEEP, 0, 0, 5);
        does(x, DEEP, 1, 0, 7);
        areAlike("no rows in rows", x, 2);
        does(x, THIN, 0, 2, 0);
        does(x, DEEP, 1, 2, 0);
        areAlike("NOTHING in a row and rows of none", x, 0);
    }

    private static void alikeRowsOfFigures() {
        Check.by("Promise 14, THINGS in rows of FIGURES the same");
        for (int kind = 6; kind <= 7; kind++) {
            for (int i = 0; i < 2; i++) {
                ThrowReports x = new ThrowReports();
                makeOne(x, 0, kind, 2);
                makeOne(x, 1, kind, 2);
                does(x, FIGURE, 2, 1, 5);
                does(x, FIGURE, 3, 1, 5);
                areAlike("NOTHING in both", x, 2);
                does(x, LAY, 0, kind, i, 2);
                areAlike("NOTHING in one", x, 0);
                does(x, LAY, 1, kind, i, 3);
                areAlike("ROUNDS that are alike", x, 0);
                Check.due("they are alike", x.alike(2, 3), 2);
                does(x, LAY, 1, kind, i, 2);
                areAlike("the same ROUNDS", x, 2);
                makeOne(x, 1, 13 - kind, 2);
                does(x, LAY, 1, 13 - kind, i, 2);
                areAlike("the same ROUNDS in rows of two KINDS", x, 0);
            }
        }
    }

    /** SLOTS 0 .. 9 as in oneOfEach(), two NODES, a run and a REPORT of them. */
    private static ThrowReports runAndReported() {
        ThrowReports x = oneOfEach();
        int get = x.act(GET, 3, 1, 1, 3);
        int guard = x.guard(get, set(SIZE), -1, get);
        x.given(1, set(0, 1, 2));
        x.run(guard);
        x.report(guard);
        return x;
    }

    private static void looksLeaveAll() {
        Check.by("Nothing is promised beyond the answers and state changes described above");
        ThrowReports x = runAndReported();
        String before = Seen.of(x);
        for (int i = 0; i < 6; i++) {
            x.ran(i);
            x.count(i);
            x.slot(6, i);
            x.item(6, i);
            x.register(i);
            x.alike(1, i);
            x.reached(i);
            x.may(i);
            x.ahead(1, i);
            x.guarded(1, i);
        }
        Check.same("after looks", Seen.of(x), before);
    }

    private static void reportsLeaveTheMachine() {
        Check.by("Promise 16, A REPORT of a NODE is made: what it MAY");
        ThrowReports x = runAndReported();
        String before = Seen.ofMachine(x) + Seen.ofRun(x) + Seen.ofStart(x);
        int make = x.act(MAKE, 0, 1, 1, 0);
        int copy = x.act(COPY, 1, 0, 1, 1);
        x.report(x.both(make, x.both(copy, x.guard(1, -1, make, copy))));
        Check.same("after a REPORT", Seen.ofMachine(x) + Seen.ofRun(x) + Seen.ofStart(x), before);
    }

    private static void objectsAreTheirOwn() {
        Check.by("Promise 1, NOTHING in all SLOTS, REGISTERS 0, no THINGS, no NODES; START has just 0 for each SLOT; no REPORT.");
        String first = Seen.of(new ThrowReports());
        ThrowReports x = runAndReported();
        String before = Seen.of(x);
        ThrowReports other = new ThrowReports();
        Check.same("a new object beside another", Seen.of(other), first);
        does(other, FIGURE, 0, 0, 5);
        other.clear();
        other.given(0, ALL);
        Check.same("an object beside another that is used", Seen.of(x), before);
    }
}

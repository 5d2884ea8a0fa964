import java.util.Arrays;
import java.util.Random;

/** "==== 4" and promises 15 to 20, sentence by sentence: STATES, and what REPORTS tell by them. */
public final class ReportEdgesTest extends Words {
    private static final int END = Probe.END;
    private static final int ANY = set(1, 2, 3, 4, 5, 6, 7, 8);

    public static void main(String[] args) {
        starts();
        slotsAs();
        rowsAs();
        itemsAs();
        clonesAndTells();
        sizes();
        alwaysMayCome();
        takes();
        lays();
        laysInOneSlot();
        copies();
        copiesInOneSlot();
        boths();
        choices();
        handlers();
        lastParts();
        lastPartsFromEachWay();
        vains();
        losts();
        neverAnEmptyOne();
        withoutReport();
        latestReport();
        nodesNotInIt();
        Check.end();
    }

    private static void starts() {
        Check.by("Promise 15, START of a SLOT is a set of KINDS (bits 0 to 9): what it was.");
        for (int slot = 0; slot < 12; slot++) {
            int before = 1;
            ThrowReports x = new ThrowReports();
            for (int set : new int[] {1, 2, 512, 1022, 1023, 513, 1}) {
                Check.due("START was", x.given(slot, set), before);
                before = set;
            }
            Check.due("an empty one", x.given(slot, 0), BAD);
            Check.due("another bit", x.given(slot, 1024), BAD);
            Check.due("another bit", x.given(slot, 1024 | 1), BAD);
            Check.due("another bit", x.given(slot, MIN), BAD);
            Check.due("all bits", x.given(slot, -1), BAD);
            for (int other = 0; other < 12; other++) {
                Check.due("as it was", x.given(other, ALL), 1);
            }
        }
        for (int set = 1; set <= ALL; set++) {
            ThrowReports x = new ThrowReports();
            Check.due("START at first", x.given(11, set), 1);
            Check.due("START was", x.given(11, 1), set);
        }
    }

    /** Those of a set with which a SLOT AS a KIND fails. */
    private static int unlike(int set, int kind) {
        return set & ~thoseThatAre(kind) & ~1;
    }

    /** The ways that are gone: of the END, FAILURE 1, FAILURE 2, .. */
    private static int[] ways(boolean... gone) {
        int[] ways = new int[gone.length];
        int count = 0;
        for (int way = 0; way < gone.length; way++) {
            if (gone[way]) {
                ways[count++] = way;
            }
        }
        return Arrays.copyOf(ways, count);
    }

    private static void slotsAs() {
        Check.by("SLOT s AS k fails, if the SLOT's set has a KIND above 0 that IS not k, with these alone in the set; "
            + "it leaves the others.");
        for (int kind = 1; kind <= 9; kind++) {
            for (int set = 1; set <= ALL; set++) {
                Probe p = new Probe(MOVE, 2, 1, kind, 0);
                p.from(5, set);
                int bad = unlike(set, kind);
                int good = set & ~bad;
                String what = "MOVE AS " + kind + " from " + set;
                p.goesJust(what, ways(good != 0, false, bad != 0));
                Check.due(what + ", UNLIKE", p.by(UNLIKE, 1), bad);
                Check.due(what + ", the SLOT not made then", p.by(UNLIKE, 2), bad == 0 ? 0 : 1);
                Check.due(what + ", left", p.by(END, 1), good);
                Check.due(what + ", moved", p.by(END, 2), good);
                Check.due(what + ", another SLOT", p.by(END, 0), good == 0 ? 0 : 5);
            }
        }
        for (int set = 1; set <= ALL; set++) {
            Probe p = new Probe(MOVE, 2, 1, 0, 0);
            p.from(5, set);
            p.goesJust("MOVE of whatever it is", END);
            Check.due("moved", p.by(END, 2), set);
            Check.due("left", p.by(END, 1), set);
        }
    }

    /** UNLIKE and NOTHING of a ROW in SLOT 1 AS a KIND; what is left of its set. */
    private static int goesAsRow(String what, Probe p, int set, int kind) {
        int bad = unlike(set, kind);
        int left = set & ~bad & ~1;
        Check.due(what + ", UNLIKE", p.by(UNLIKE, 1), bad);
        Check.due(what + ", NOTHING", p.by(NOTHING, 1), set & 1);
        Check.due(what + ", NOTHING, another SLOT", p.by(NOTHING, 0), (set & 1) * 5);
        return left;
    }

    private static void rowsAs() {
        Check.by("A ROW (TELLS likewise): NOTHING, if the set has 0, with just 0; it leaves the others.");
        for (int kind = 1; kind <= 7; kind++) {
            for (int set = 1; set <= ALL; set++) {
                Probe p = new Probe(LENGTH, 3, 1, kind, 0);
                p.from(5, set);
                String what = "LENGTH AS " + kind + " from " + set;
                int left = goesAsRow(what, p, set, kind);
                p.goesJust(what, ways(left != 0, (set & 1) != 0, unlike(set, kind) != 0));
                Check.due(what + ", left", p.by(END, 1), left);
            }
        }
    }

    private static void itemsAs() {
        Check.by("PLACE, ROOM, ZERO: may always come, and not, the STATE being as it is.");
        for (int set = 1; set <= ALL; set++) {
            for (int kind = 1; kind <= 4; kind++) {
                for (int op : new int[] {GET, SET}) {
                    Probe p = op == GET ? new Probe(GET, 3, 1, kind, 0) : new Probe(SET, 1, kind, 0, 3);
                    p.from(5, set);
                    String what = "op " + op + " AS " + kind + " from " + set;
                    int left = goesAsRow(what, p, set, kind);
                    p.goesJust(what, ways(left != 0, (set & 1) != 0, unlike(set, kind) != 0, left != 0));
                    Check.due(what + ", PLACE", p.by(PLACE, 1), left);
                    Check.due(what + ", left", p.by(END, 1), left);
                }
            }
        }
    }

    private static void clonesAndTells() {
        Check.by("A ROW (TELLS likewise): NOTHING, if the set has 0, with just 0; it leaves the others.");
        for (int set = 1; set <= ALL; set++) {
            Probe p = new Probe(TELLS, 3, 1, 0, 0);
            p.from(5, set);
            int left = goesAsRow("TELLS", p, set, 8);
            p.goesJust("TELLS from " + set, ways(left != 0, (set & 1) != 0, unlike(set, 8) != 0));
            Check.due("TELLS, left", p.by(END, 1), left);
            p = new Probe(CLONE, 2, 1, 0, 0);
            p.from(5, set, 6);
            left = goesAsRow("CLONE", p, set, 1);
            boolean room = left != 0;
            p.goesJust("CLONE from " + set, ways(room, (set & 1) != 0, unlike(set, 1) != 0, false, false, false, false, false, room));
            Check.due("CLONE, left", p.by(END, 1), left);
            Check.due("CLONE, made", p.by(END, 2), left);
            Check.due("CLONE, ROOM", p.by(ROOM, 2), room ? 6 : 0);
        }
    }

    private static void makes(int kind, boolean wrong, int op, int b, int c) {
        for (int before : new int[] {1, ALL, 1 << kind, 5}) {
            Probe p = new Probe(op, 1, b, c, 0);
            p.from(6, before);
            String what = "op " + op + " of " + b + " and " + c;
            p.goesJust(what, wrong ? ways(false, false, false, false, true) : new int[] {END, ROOM});
            Check.due(what + ", SIZE", p.by(SIZE, 1), wrong ? before : 0);
            Check.due(what + ", ROOM", p.by(ROOM, 1), wrong ? 0 : before);
            Check.due(what + ", made", p.by(END, 1), wrong ? 0 : 1 << kind);
            Check.due(what + ", another SLOT", p.by(END, 0), wrong ? 0 : 6);
        }
    }

    private static void sizes() {
        Check.by("SIZE: comes, or not, by the numbers. .. has, for the SLOT that it makes anew, just the KIND told");
        int[] numbers = {MIN, -2, -1, 0, 1, 3000, 3001, MAX};
        for (int n : numbers) {
            for (int kind : new int[] {1, 2, 3, 4, 6, 7}) {
                makes(kind, n < 0, MAKE, kind, n);
            }
            makes(5, n < 0, THIN, n, -1);
            makes(8, false, FIGURE, 0, n);
            makes(n == 0 ? 8 : 9, false, FIGURE, n, -1);
            for (int m : numbers) {
                makes(5, n < 0 || m < 0, DEEP, n, m);
            }
        }
    }

    private static void alwaysMayCome() {
        Check.by("PLACE, ROOM, ZERO: may always come, and not, the STATE being as it is. .. OWN: always.");
        for (int set : new int[] {1, 2, 512, ALL}) {
            for (int op : new int[] {DIVIDE, REST}) {
                Probe p = new Probe(op, 0, 1, 2, 0);
                p.from(set, ALL);
                p.goesJust("op " + op, END, ZERO);
                Check.due("ZERO", p.by(ZERO, 0), set);
                Check.due("END", p.by(END, 0), set);
            }
            for (int op : new int[] {NUMBER, ADD}) {
                Probe p = new Probe(op, 0, 1, 2, 0);
                p.from(set, ALL);
                p.goesJust("op " + op, END);
                Check.due("END", p.by(END, 0), set);
            }
            Probe p = new Probe(FAIL, 0, 0, 0, 0);
            p.from(set, ALL);
            p.goesJust("FAIL", OWN);
            Check.due("OWN", p.by(OWN, 0), set);
        }
    }

    private static void takes() {
        Check.by("of TAKE 0 and, of AS 5, 1; of AS 6 and 7: 9, and 8, if SLOT b's set has 6 (then).");
        for (int set = 1; set <= ALL; set++) {
            for (int kind = 5; kind <= 7; kind++) {
                Probe p = new Probe(TAKE, 2, 1, kind, 0);
                p.from(5, set, 6);
                String what = "TAKE AS " + kind + " from " + set;
                int left = goesAsRow(what, p, set, kind);
                p.goesJust(what, ways(left != 0, (set & 1) != 0, unlike(set, kind) != 0, left != 0));
                int taken = kind == 5 ? set(0, 1) : (left & set(6)) != 0 ? set(0, 8, 9) : set(0, 9);
                Check.due(what + ", taken", p.by(END, 2), left == 0 ? 0 : taken);
                Check.due(what + ", left", p.by(END, 1), left);
                Check.due(what + ", PLACE", p.by(PLACE, 2), left == 0 ? 0 : 6);
                Probe own = new Probe(TAKE, 1, 1, kind, 0);
                own.from(5, set);
                Check.due(what + " to its own SLOT", own.by(END, 1), left == 0 ? 0 : taken);
                Check.due(what + " to its own SLOT, PLACE", own.by(PLACE, 1), left);
            }
        }
    }

    /** A number's bits, as members of a set of some KINDS. */
    private static int among(int[] kinds, int bits) {
        int set = 0;
        for (int i = 0; i < kinds.length; i++) {
            set |= (bits >> i & 1) << kinds[i];
        }
        return set;
    }

    private static void lays() {
        Check.by("STORE of LAY: if SLOT a's set has 7 and SLOT d's has 8, with the STATE as it is; it leaves: a's set "
            + "without 7, if d's is just 8; ..");
        int[] rows = {0, 5, 6, 7, 2};
        int[] laid = {0, 1, 8, 9, 3};
        for (int kind = 5; kind <= 7; kind++) {
            for (int one = 1; one < 32; one++) {
                for (int other = 1; other < 32; other++) {
                    laysFrom(kind, among(rows, one), among(laid, other));
                }
            }
        }
    }

    private static void laysFrom(int kind, int a, int d) {
        Probe p = new Probe(LAY, 1, kind, 0, 2);
        p.from(5, a, d);
        String what = "LAY AS " + kind + " from " + a + " and " + d;
        int items = kind == 5 ? 1 : kind + 2;
        int badA = unlike(a, kind);
        int leftA = a & ~badA;
        int badD = leftA == 0 ? 0 : unlike(d, items);
        int leftD = leftA == 0 ? 0 : d & ~badD;
        Check.due(what + ", UNLIKE of a", p.by(UNLIKE, 1), badA | (badD == 0 ? 0 : leftA));
        Check.due(what + ", UNLIKE of d", p.by(UNLIKE, 2), badD | (badA == 0 ? 0 : d));
        boolean nothing = leftD != 0 && (leftA & 1) != 0;
        Check.due(what + ", NOTHING of a", p.by(NOTHING, 1), nothing ? 1 : 0);
        Check.due(what + ", NOTHING of d", p.by(NOTHING, 2), nothing ? leftD : 0);
        int rowA = leftD == 0 ? 0 : leftA & ~1;
        int rowD = rowA == 0 ? 0 : leftD;
        Check.due(what + ", PLACE of a", p.by(PLACE, 1), rowA);
        Check.due(what + ", PLACE of d", p.by(PLACE, 2), rowD);
        boolean store = (rowA & set(7)) != 0 && (rowD & set(8)) != 0;
        Check.due(what + ", STORE of a", p.by(STORE, 1), store ? rowA : 0);
        Check.due(what + ", STORE of d", p.by(STORE, 2), store ? rowD : 0);
        int endA = store && rowD == set(8) ? rowA & ~set(7) : rowA;
        int endD = store && rowA == set(7) ? rowD & ~set(8) : rowD;
        boolean end = endA != 0 && endD != 0;
        Check.due(what + ", left of a", p.by(END, 1), end ? endA : 0);
        Check.due(what + ", left of d", p.by(END, 2), end ? endD : 0);
        p.goesJust(what, ways(end, nothing, badA != 0 || badD != 0, rowA != 0, false, store));
    }

    private static void laysInOneSlot() {
        Check.by("An ACT, question by question, each with the STATE that the one before left, as long as there is one");
        for (int set = 1; set <= ALL; set++) {
            for (int kind = 5; kind <= 7; kind++) {
                Probe p = new Probe(LAY, 1, kind, 0, 1);
                p.from(5, set);
                p.goesJust("LAY of a SLOT in itself", ways(false, (set & 1) != 0, set != 1));
                Check.due("UNLIKE", p.by(UNLIKE, 1), set & ~1);
                Check.due("NOTHING", p.by(NOTHING, 1), set & 1);
            }
        }
    }

    private static boolean meet(int one, int other) {
        return one == other && one >= 1 && one <= 7 || one >= 5 && one <= 7 && other >= 5 && other <= 7;
    }

    private static boolean mayStore(int from, int to) {
        for (int one = 1; one <= 9; one++) {
            for (int other = 1; other <= 9; other++) {
                boolean both = (from >> one & 1) != 0 && (to >> other & 1) != 0;
                boolean takesAll = meet(one, other) && (one == other || one == 7 && other == 6);
                if (both && !takesAll) {
                    return true;
                }
            }
        }
        return false;
    }

    private static int meeting(int set, int others) {
        int met = 0;
        for (int one = 1; one <= 9; one++) {
            for (int other = 1; other <= 9; other++) {
                if ((set >> one & 1) != 0 && (others >> other & 1) != 0 && meet(one, other)) {
                    met |= 1 << one;
                }
            }
        }
        return met;
    }

    private static void copies() {
        Check.by("COPY: NOTHING, if one of both sets has 0, ..; it leaves both without 0 (none, if one is empty "
            + "then). STORE, .. (none, if there are none). PLACE.");
        for (int one = 1; one <= ALL; one++) {
            for (int other = 1; other <= ALL; other++) {
                if (Integer.bitCount(one) <= 2 && Integer.bitCount(other) <= 2 || (one * 31 + other) % 97 == 0) {
                    copiesFrom(one, other, 1, 2);
                }
            }
        }
    }

    private static void copiesInOneSlot() {
        Check.by("STORE, if there are KINDS, one of a's set, one of c's, that do not MEET");
        for (int set = 1; set <= ALL; set++) {
            copiesFrom(set, set, 1, 1);
        }
    }

    private static void copiesFrom(int a, int c, int slot, int other) {
        Probe p = new Probe(COPY, slot, 0, other, 0);
        p.from(5, a, slot == other ? 6 : c);
        String what = "COPY of " + slot + " to " + other + " from " + a + " and " + c;
        boolean nothing = (a & 1) != 0 || (c & 1) != 0;
        Check.due(what + ", NOTHING of a", p.by(NOTHING, slot), nothing ? a : 0);
        Check.due(what + ", NOTHING of c", p.by(NOTHING, other), nothing ? c : 0);
        boolean there = (a & ~1) != 0 && (c & ~1) != 0;
        boolean store = there && mayStore(a, c);
        Check.due(what + ", STORE of a", p.by(STORE, slot), store ? a & ~1 : 0);
        Check.due(what + ", STORE of c", p.by(STORE, other), store ? c & ~1 : 0);
        int leftA = meeting(a, c);
        int leftC = meeting(c, a);
        Check.due(what + ", PLACE of a", p.by(PLACE, slot), leftA);
        Check.due(what + ", PLACE of c", p.by(PLACE, other), leftC);
        Check.due(what + ", left of a", p.by(END, slot), leftA);
        Check.due(what + ", left of c", p.by(END, other), leftC);
        p.goesJust(what, ways(leftA != 0, nothing, false, leftA != 0, false, store));
    }

    private static void boths() {
        Check.by("BOTH: from the STATE with which the first may END the second one.");
        ThrowReports x = new ThrowReports();
        x.given(0, set(0, 1, 2));
        int length = x.act(LENGTH, 0, 0, 1, 0);
        int get = x.act(GET, 0, 0, 1, 0);
        int own = x.act(FAIL, 0, 0, 0, 0);
        int both = x.both(length, get);
        Check.due("BOTH", x.report(both), set(END, NOTHING, UNLIKE, PLACE));
        Check.due("AHEAD of the first", x.ahead(length, 0), set(0, 1, 2));
        Check.due("AHEAD of the second", x.ahead(get, 0), set(1));
        Check.due("the second MAY", x.may(get), set(END, PLACE));
        Check.due("a first that can't END", x.report(x.both(own, get)), set(OWN));
        Check.due("the second is not REACHED", x.reached(get), 0);
        x.given(0, set(0));
        Check.due("a first that can't END from here", x.report(both), set(NOTHING));
        Check.due("the second is not REACHED", x.reached(get) + x.may(get) + x.ahead(get, 0), 0);
        Check.due("one NODE as both", x.report(x.both(own, own)), set(OWN));
    }

    private static void choices() {
        Check.by("A CHOICE: the one from the STATE with those KINDS of SLOT s that ARE k (0: just 0), the other one "
            + "with those that are not; what would be empty is not gone.");
        for (int kind = 0; kind <= 9; kind++) {
            for (int set = 1; set <= ALL; set++) {
                ThrowReports x = new ThrowReports();
                x.given(11, set);
                x.given(0, 5);
                int own = x.act(FAIL, 0, 0, 0, 0);
                int zero = x.act(DIVIDE, 0, 0, 0, 0);
                int choice = x.choice(11, kind, own, zero);
                int one = set & (kind == 0 ? 1 : thoseThatAre(kind));
                int other = set & ~one;
                int want = (one == 0 ? 0 : set(OWN)) | (other == 0 ? 0 : set(END, ZERO));
                Check.due("CHOICE by " + kind + " from " + set, x.report(choice), want);
                Check.due("AHEAD of the one", x.ahead(own, 11), one);
                Check.due("AHEAD of the other one", x.ahead(zero, 11), other);
                Check.due("another SLOT", x.ahead(own, 0), one == 0 ? 0 : 5);
                Check.due("REACHED", x.reached(own) + 2 * x.reached(zero), (one == 0 ? 0 : 1) + (other == 0 ? 0 : 2));
            }
        }
    }

    private static void handlers() {
        Check.by("A GUARD: the FAILURES of its set with which its BODY may fail come to its HANDLER, put together; "
            + "with it, or, without one, right away it ENDS");
        for (int set = 0; set < 512; set += 2) {
            ThrowReports x = new ThrowReports();
            x.given(0, set(0, 1, 2));
            int get = x.act(GET, 0, 0, 1, 0);
            int zero = x.act(DIVIDE, 0, 0, 0, 0);
            int next = x.act(NUMBER, 0, 0, 0, 0);
            int taken = ((set & set(NOTHING)) != 0 ? set(0) : 0) | ((set & set(UNLIKE)) != 0 ? set(2) : 0)
                | ((set & set(PLACE)) != 0 ? set(1) : 0);
            int left = set(NOTHING, UNLIKE, PLACE) & ~set;
            int guard = x.guard(get, set, zero, -1);
            Check.due("with a HANDLER", x.report(x.both(guard, next)), set(END) | left | (taken == 0 ? 0 : set(ZERO)));
            Check.due("AHEAD of it", x.ahead(zero, 0), taken);
            Check.due("REACHED", x.reached(zero), taken == 0 ? 0 : 1);
            Check.due("ENDS", x.ahead(next, 0), taken | set(1));
            int bare = x.guard(get, set, -1, -1);
            Check.due("without a HANDLER", x.report(x.both(bare, next)), set(END) | left);
            Check.due("ENDS", x.ahead(next, 0), taken | set(1));
        }
    }

    private static void lastParts() {
        Check.by("then, from each way in which all that may END or fail, its LAST PART: where that may END the way "
            + "goes on with that STATE; where that may fail, it fails so.");
        ThrowReports x = new ThrowReports();
        x.given(0, set(0, 1, 2));
        int get = x.act(GET, 0, 0, 1, 0);
        int make = x.act(MAKE, 0, 3, 1, 0);
        int length = x.act(LENGTH, 0, 0, 1, 0);
        int own = x.act(FAIL, 0, 0, 0, 0);
        int next = x.act(NUMBER, 0, 0, 0, 0);
        int made = x.guard(get, 0, -1, make);
        Check.due("ways go on, or fail", x.report(made), set(END, NOTHING, UNLIKE, PLACE, ROOM));
        Check.due("AHEAD of the LAST PART", x.ahead(make, 0), set(0, 1, 2));
        Check.due("by UNLIKE", x.report(x.guard(made, set(UNLIKE), next, -1)), set(END, NOTHING, PLACE, ROOM));
        Check.due("with that STATE", x.ahead(next, 0), set(3));
        Check.due("by ROOM", x.report(x.guard(made, set(ROOM), next, -1)), set(END, NOTHING, UNLIKE, PLACE));
        Check.due("with all STATES", x.ahead(next, 0), set(0, 1, 2));
        Check.due("a LAST PART that can't END", x.report(x.guard(get, 0, -1, own)), set(OWN));
        Check.due("none is left to LAST PARTS behind", x.report(x.both(x.guard(get, -1, -1, own), next)), set(OWN));
        Check.due("not REACHED", x.reached(next), 0);
        Check.due("way by way", x.report(x.guard(get, 0, -1, length)), set(END, NOTHING, UNLIKE, PLACE));
        Check.due("by NOTHING", x.report(x.guard(x.guard(get, 0, -1, length), set(NOTHING), next, -1)), set(END, UNLIKE, PLACE));
        Check.due("with just 0", x.ahead(next, 0), set(0));
        int handled = x.guard(get, set(NOTHING), own, length);
        Check.due("after a HANDLER that fails", x.report(handled), set(END, NOTHING, UNLIKE, PLACE));
        int bare = x.guard(get, set(NOTHING), -1, length);
        Check.due("END and what is taken put together", x.report(bare), set(END, NOTHING, UNLIKE, PLACE));
    }

    private static void lastPartsFromEachWay() {
        Check.by("then, from each way in which all that may END or fail, its LAST PART");
        int[][] acts = {{LENGTH, 0, 0, 1, 0}, {LENGTH, 0, 1, 1, 0}, {GET, 0, 2, 1, 0}, {MAKE, 0, 1, -1, 0}, {COPY, 1, 0, 2, 0},
            {DIVIDE, 0, 0, 0, 0}, {FAIL, 0, 0, 0, 0}, {THIN, 0, 1, 0, 0}};
        for (int failure = NOTHING; failure <= ROOM; failure++) {
            ThrowReports x = new ThrowReports();
            x.given(1, set(2));
            x.given(2, set(1));
            int[] act = acts[failure - 1];
            int body = x.act(act[0], act[1], act[2], act[3], act[4]);
            int quiet = x.act(NUMBER, 0, 0, 0, 0);
            int move = x.act(MOVE, 0, 2, 0, 0);
            int next = x.act(NUMBER, 0, 0, 0, 0);
            int size = x.act(MAKE, 0, 1, -1, 0);
            boolean ends = failure == PLACE || failure == ZERO || failure == ROOM;
            int may = set(failure) | (ends ? set(END) : 0);
            Check.due("alone", x.report(body), may);
            Check.due("a LAST PART that ENDS", x.report(x.guard(body, 0, -1, quiet)), may);
            Check.due("AHEAD of it", x.ahead(quiet, 0), failure == ROOM ? set(0, 5) : set(0));
            int moved = x.guard(body, 0, -1, move);
            Check.due("goes on by " + failure, x.report(x.guard(moved, set(failure), next, -1)), set(END));
            Check.due("with the LAST PART's STATE", x.ahead(next, 0), set(1));
            int lost = x.guard(body, 0, -1, size);
            Check.due("a LAST PART that fails", x.report(lost), set(SIZE));
            Check.due("LOST", x.guarded(lost, 1), set(failure));
            int handled = x.guard(x.act(FAIL, 0, 0, 0, 0), -1, body, size);
            Check.due("behind a HANDLER", x.report(handled), set(SIZE));
            Check.due("LOST", x.guarded(handled, 1), set(failure));
        }
    }

    private static void vains() {
        Check.by("A GUARD's VAIN FAILURES are those of its set (1 to 8) by which its BODY may fail at none of these times");
        for (int set = 0; set < 1024; set++) {
            ThrowReports x = new ThrowReports();
            x.given(0, set(0, 1, 2));
            int guard = x.guard(x.act(GET, 0, 0, 1, 0), set | 1 << 20, -1, -1);
            x.report(guard);
            Check.due("VAIN of " + set, x.guarded(guard, 0), set & ANY & ~set(NOTHING, UNLIKE, PLACE));
            Check.due("LOST of " + set, x.guarded(guard, 1), 0);
        }
        ThrowReports x = new ThrowReports();
        x.given(0, set(1));
        int length = x.act(LENGTH, 0, 0, 1, 0);
        int guard = x.guard(length, set(NOTHING, UNLIKE), -1, -1);
        int none = x.act(MOVE, 0, 1, 0, 0);
        int bytes = x.act(MAKE, 0, 2, 1, 0);
        x.report(guard);
        Check.due("VAIN of one time", x.guarded(guard, 0), set(NOTHING, UNLIKE));
        x.report(x.both(guard, x.both(none, guard)));
        Check.due("VAIN of two times", x.guarded(guard, 0), set(UNLIKE));
        x.report(x.both(x.both(none, guard), x.both(bytes, guard)));
        Check.due("VAIN of two others", x.guarded(guard, 0), 0);
        x.report(x.both(x.both(guard, none), length));
        Check.due("BODY may fail outside", x.may(length), set(END, NOTHING));
        Check.due("VAIN all the same", x.guarded(guard, 0), set(NOTHING, UNLIKE));
        x.report(length);
        Check.due("VAIN of no time", x.guarded(guard, 0), 0);
    }

    private static void losts() {
        Check.by("its LOST ones those with which BODY and HANDLER together may fail, on some way on which the LAST "
            + "PART may fail then.");
        ThrowReports x = new ThrowReports();
        x.given(0, set(0, 1, 2));
        int get = x.act(GET, 0, 0, 1, 0);
        int zero = x.act(DIVIDE, 0, 0, 0, 0);
        int quiet = x.act(NUMBER, 0, 0, 0, 0);
        int length = x.act(LENGTH, 0, 0, 1, 0);
        losesJust(x, "a LAST PART that may fail", x.guard(get, 0, -1, zero), set(NOTHING, UNLIKE, PLACE));
        losesJust(x, "a LAST PART that may not", x.guard(get, 0, -1, quiet), 0);
        losesJust(x, "without a LAST PART", x.guard(get, 0, -1, -1), 0);
        losesJust(x, "what is taken is not LOST", x.guard(get, set(UNLIKE), -1, zero), set(NOTHING, PLACE));
        losesJust(x, "all that is taken", x.guard(get, -1, -1, zero), 0);
        losesJust(x, "what a HANDLER fails by", x.guard(get, -1, zero, zero), set(ZERO));
        losesJust(x, "both", x.guard(get, set(PLACE), zero, zero), set(NOTHING, UNLIKE, ZERO));
        losesJust(x, "on some way", x.guard(get, 0, -1, length), set(NOTHING, UNLIKE));
        losesJust(x, "an END is not LOST", x.guard(quiet, 0, -1, zero), 0);
        losesJust(x, "just what the BODY may fail by", x.guard(x.act(MOVE, 1, 0, 1, 0), 0, -1, zero), set(UNLIKE));
    }

    private static void losesJust(ThrowReports x, String what, int guard, int want) {
        x.report(guard);
        Check.due("LOST: " + what, x.guarded(guard, 1), want);
    }

    private static void neverAnEmptyOne() {
        Check.by("STATES: of each SLOT a set of KINDS that it may hold (0 for NOTHING), never an empty one.");
        for (int seed = 0; seed < 300; seed++) {
            Random random = new Random(seed);
            ThrowReports x = new ThrowReports();
            for (int slot = 0; slot < 3; slot++) {
                x.given(slot, random.nextInt(1024) & random.nextInt(1024) | 1 << random.nextInt(10));
            }
            for (int i = 0; i < 24; i++) {
                randomNode(x, random);
            }
            x.report(x.count(2) - 1);
            for (int node = 0; node < x.count(2); node++) {
                int reached = x.reached(node);
                Check.holds("what is REACHED MAY something", reached == (x.may(node) == 0 ? 0 : 1));
                for (int slot = 0; slot < 12; slot++) {
                    Check.holds("what is REACHED has a STATE ahead", reached == (x.ahead(node, slot) == 0 ? 0 : 1));
                }
            }
        }
    }

    private static void randomNode(ThrowReports x, Random random) {
        int nodes = x.count(2);
        int a = random.nextInt(3);
        int b = random.nextInt(3);
        int one = nodes == 0 ? 0 : nodes - 1 - random.nextInt(Math.min(nodes, 3));
        int other = nodes == 0 ? 0 : random.nextInt(nodes);
        switch (random.nextInt(8)) {
            case 0: x.act(MOVE, a, b, random.nextInt(10), 0); break;
            case 1: x.act(LAY, a, 5 + random.nextInt(3), 0, b); break;
            case 2: x.act(COPY, a, 0, b, 0); break;
            case 3: x.act(TAKE, a, b, 5 + random.nextInt(3), 0); break;
            case 4: x.choice(a, random.nextInt(10), one, other); break;
            case 5: x.guard(one, random.nextInt(512), other, -1); break;
            case 6: x.guard(one, random.nextInt(512), -1, other); break;
            default: x.both(one, other); break;
        }
    }

    private static void tellsNothing(String what, ThrowReports x, int node) {
        Check.due(what + ": reached", x.reached(node), 0);
        Check.due(what + ": may", x.may(node), 0);
        Check.due(what + ": ahead", x.ahead(node, 0), 0);
        Check.due(what + ": ahead", x.ahead(node, 11), 0);
    }

    private static void withoutReport() {
        Check.by("Promises 17 to 20, 1, 0 (also without one) .. 0: it was not REACHED, there is no REPORT .. 0 likewise");
        ThrowReports x = new ThrowReports();
        x.act(GET, 0, 0, 1, 0);
        x.guard(0, -1, -1, 0);
        for (int times = 0; times < 2; times++) {
            tellsNothing("an ACT", x, 0);
            tellsNothing("a GUARD", x, 1);
            Check.due("VAIN", x.guarded(1, 0), 0);
            Check.due("LOST", x.guarded(1, 1), 0);
            x.run(1);
            Check.due("a REPORT refused", x.report(2), BAD);
        }
    }

    private static void latestReport() {
        Check.by("Promise 17, Whether a NODE was REACHED in the latest REPORT");
        ThrowReports x = new ThrowReports();
        int get = x.act(GET, 0, 0, 1, 0);
        int zero = x.act(DIVIDE, 0, 0, 0, 0);
        int guard = x.guard(get, -1, -1, zero);
        int other = x.guard(zero, -1, -1, -1);
        x.given(0, set(0, 1, 2));
        Check.due("report", x.report(guard), set(END, ZERO));
        String first = Seen.ofNodes(x);
        x.given(0, set(1));
        x.run(guard);
        x.clear();
        x.report(-1);
        x.report(4);
        Check.same("calls that make no REPORT leave it", Seen.ofNodes(x), first);
        Check.due("report of another", x.report(other), set(END));
        tellsNothing("not in this one", x, get);
        tellsNothing("not in this one", x, guard);
        Check.due("VAIN", x.guarded(guard, 0), 0);
        Check.due("AHEAD", x.ahead(zero, 0), set(1));
        Check.due("report from another START", x.report(guard), set(END, ZERO));
        Check.due("AHEAD anew", x.ahead(get, 0), set(1));
        Check.due("MAY anew", x.may(get), set(END, PLACE));
        Check.due("VAIN anew", x.guarded(guard, 0), ANY & ~set(PLACE));
        Check.due("not in this one", x.guarded(other, 0), 0);
        x.given(0, set(0, 1, 2));
        x.report(guard);
        Check.due("VAIN as at first", x.guarded(guard, 0), ANY & ~set(NOTHING, UNLIKE, PLACE));
        latestReportOfParts();
    }

    /** From a narrower START nothing of the REPORT before is left, neither AHEAD of parts nor LOST. */
    private static void latestReportOfParts() {
        ThrowReports x = new ThrowReports();
        int get = x.act(GET, 0, 0, 1, 0);
        int quiet = x.act(NUMBER, 0, 0, 0, 0);
        int length = x.act(LENGTH, 0, 0, 1, 0);
        int guard = x.guard(get, set(NOTHING, UNLIKE), quiet, length);
        int make = x.act(MAKE, 0, 2, 1, 0);
        int made = x.guard(make, set(ROOM), quiet, length);
        for (int times = 0; times < 2; times++) {
            x.given(0, set(0, 1, 2));
            Check.due("from a wide START", x.report(guard), set(END, NOTHING, UNLIKE, PLACE));
            Check.due("AHEAD of the HANDLER", x.ahead(quiet, 0), set(0, 2));
            Check.due("AHEAD of the LAST PART", x.ahead(length, 0), set(0, 1, 2));
            Check.due("after ROOM", x.report(made), set(END, NOTHING, UNLIKE));
            Check.due("AHEAD of the HANDLER", x.ahead(quiet, 0), set(0, 1, 2));
            x.given(0, set(2));
            Check.due("from a narrow START", x.report(guard), set(UNLIKE));
            Check.due("AHEAD of the HANDLER", x.ahead(quiet, 0), set(2));
            Check.due("AHEAD of the LAST PART", x.ahead(length, 0), set(2));
            Check.due("after ROOM", x.report(made), set(UNLIKE));
            Check.due("AHEAD of the HANDLER", x.ahead(quiet, 0), set(2));
            x.given(0, set(1));
            Check.due("from another START", x.report(guard), set(END, PLACE));
            Check.due("the HANDLER is not REACHED", x.reached(quiet) + x.ahead(quiet, 0), 0);
        }
        int zero = x.act(DIVIDE, 0, 0, 0, 0);
        int lost = x.guard(get, 0, -1, zero);
        x.given(0, set(0, 1, 2));
        losesJust(x, "from a wide START", lost, set(NOTHING, UNLIKE, PLACE));
        x.given(0, set(0));
        losesJust(x, "from a narrow START", lost, set(NOTHING));
        x.report(zero);
        Check.due("LOST of what is not REACHED", x.guarded(lost, 1), 0);
    }

    private static void nodesNotInIt() {
        Check.by("Promise 18, 0: it was not REACHED");
        ThrowReports x = new ThrowReports();
        int own = x.act(FAIL, 0, 0, 0, 0);
        int never = x.guard(own, -1, own, own);
        int root = x.both(own, never);
        Check.due("report", x.report(root), set(OWN));
        tellsNothing("behind what can't END", x, never);
        Check.due("VAIN", x.guarded(never, 0), 0);
        Check.due("LOST", x.guarded(never, 1), 0);
        Check.due("the same NODE ahead of it", x.reached(own), 1);
        int later = x.guard(own, -1, -1, -1);
        tellsNothing("made since", x, later);
        Check.due("VAIN of one made since", x.guarded(later, 0), 0);
        Check.due("the REPORT stays", x.may(root), set(OWN));
    }
}

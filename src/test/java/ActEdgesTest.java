/** "==== 2": what each ACT does at its edges, by which FAILURE it fails, and that it has changed nothing then. */
public final class ActEdgesTest extends Words {
    private static final int[] AROUND = {MIN, MIN + 1, -4, -3, -2, -1, 0, 1, 2, 3, 4, 5, MAX - 1, MAX};

    public static void main(String[] args) {
        slotsAs();
        laidSlotsAs();
        itemsOfRows();
        itemsOfLaidRows();
        makes();
        makesDeep();
        makesThin();
        makesFigures();
        moves();
        sets();
        takes();
        lays();
        laysStore();
        laysInOrder();
        lengths();
        clones();
        tells();
        numbers();
        adds();
        divides();
        divisionsByZero();
        failsOnItsOwn();
        Check.end();
    }

    /** An ACT that fails; "the first that fails is its FAILURE; it has changed nothing then". */
    private static void fails(String what, ThrowReports x, int want, int op, int a, int b, int c, int d) {
        String before = Seen.ofMachine(x);
        Check.due(what, does(x, op, a, b, c, d), want);
        Check.same(what + " has changed nothing", Seen.ofMachine(x), before);
        Check.due(what + " was begun", x.ran(0), 1);
        Check.due(what + " failed", x.ran(1), 1);
        Check.due(what + " is the latest that failed", x.ran(5), 0);
    }

    /** The numbers of an ACT that asks for a SLOT AS a KIND and then for its item 1. */
    private static int[] asking(int op, int slot, int kind, int i) {
        switch (op) {
            case GET: return new int[] {3, slot, kind, i};
            case SET: return new int[] {slot, kind, i, 3};
            case LAY: return new int[] {slot, kind, i, 0};
            default: return new int[] {10, slot, kind, i};
        }
    }

    private static boolean asksFor(int op, int kind) {
        switch (op) {
            case MOVE: return true;
            case GET: case SET: return kind <= 4;
            case TAKE: case LAY: return kind >= 5 && kind <= 7;
            case LENGTH: return kind <= 7;
            case CLONE: return kind == 1;
            case TELLS: return kind == 8;
            default: return false;
        }
    }

    private static void slotsAs() {
        Check.by("SLOT s AS k: UNLIKE, if it holds a THING that IS not of KIND k. A ROW in SLOT s AS k: that, then NOTHING");
        for (int op : new int[] {MOVE, GET, SET, TAKE, LAY, LENGTH, CLONE, TELLS}) {
            for (int kind = 1; kind <= 9; kind++) {
                for (int held = 0; held <= 9 && asksFor(op, kind); held++) {
                    int[] n = asking(op, held, kind, 1);
                    n[0] = op == LENGTH || op == TELLS ? 3 : n[0];
                    int want = held == 0 ? op == MOVE ? 0 : NOTHING : is(held, kind) ? 0 : UNLIKE;
                    String what = "op " + op + " of " + held + " AS " + kind;
                    if (want == 0) {
                        Check.due(what, does(oneOfEach(), op, n[0], n[1], n[2], n[3]), 0);
                    } else {
                        fails(what, oneOfEachFilled(), want, op, n[0], n[1], n[2], n[3]);
                    }
                }
            }
        }
    }

    private static void laidSlotsAs() {
        Check.by("8 LAY: SLOT a AS b (5, 6, 7); SLOT d AS 1, 8, 9 (of b 5, 6, 7)");
        for (int kind = 5; kind <= 7; kind++) {
            int items = kind == 5 ? 1 : kind == 6 ? 8 : 9;
            for (int held = 0; held <= 9; held++) {
                String what = "LAY of " + held + " in " + kind;
                if (held == 0 || is(held, items)) {
                    ThrowReports x = oneOfEach();
                    Check.due(what, does(x, LAY, kind, kind, 1, held), 0);
                    hasItems(what, x, kind, 0, held, 0);
                } else {
                    fails(what, oneOfEachFilled(), UNLIKE, LAY, kind, kind, 1, held);
                }
            }
        }
    }

    private static void itemsOfRows() {
        Check.by("An ITEM i of a ROW: that ROW, then PLACE, if i is not 0 up to its length less 1.");
        for (int kind = 1; kind <= 7; kind++) {
            for (int length : new int[] {0, 1, 3}) {
                for (int i : AROUND) {
                    itemOf(kind < 5 ? GET : TAKE, kind, length, i);
                    itemOf(kind < 5 ? SET : LAY, kind, length, i);
                }
            }
        }
    }

    private static void itemOf(int op, int kind, int length, int i) {
        ThrowReports x = new ThrowReports();
        makeOne(x, 1, kind, length);
        does(x, NUMBER, 3, 9, 0);
        does(x, FIGURE, 10, 0, 9);
        int[] n = asking(op, 1, kind, i);
        String what = "op " + op + " of KIND " + kind + ", item " + i + " of " + length;
        if (i >= 0 && i < length) {
            Check.due(what, does(x, op, n[0], n[1], n[2], n[3]), 0);
        } else {
            fails(what, x, PLACE, op, n[0], n[1], n[2], n[3]);
        }
    }

    private static void itemsOfLaidRows() {
        Check.by("Its questions are asked in the order told; the first that fails is its FAILURE");
        for (int i : new int[] {MIN, -1, 3, MAX}) {
            fails("GET of NOTHING at no place", oneOfEachFilled(), NOTHING, GET, 3, 0, 1, i);
            fails("GET of another KIND at no place", oneOfEachFilled(), UNLIKE, GET, 3, 2, 1, i);
            fails("SET of NOTHING at no place", oneOfEachFilled(), NOTHING, SET, 0, 1, i, 3);
            fails("SET of another KIND at no place", oneOfEachFilled(), UNLIKE, SET, 2, 1, i, 3);
            fails("TAKE of NOTHING at no place", oneOfEachFilled(), NOTHING, TAKE, 3, 0, 6, i);
            fails("TAKE of another KIND at no place", oneOfEachFilled(), UNLIKE, TAKE, 3, 6, 7, i);
        }
    }

    /** SLOT 0 a row of rows, SLOTS 1 and 4 rows of ints, SLOT 2 a FIGURE, SLOT 3 a ROUND; no room for more. */
    private static ThrowReports withoutRoom() {
        ThrowReports x = new ThrowReports();
        does(x, DEEP, 0, 195, 0);
        does(x, MAKE, 1, 1, 2802);
        does(x, FIGURE, 2, 0, 5);
        does(x, FIGURE, 3, 1, 5);
        does(x, MAKE, 4, 1, 3);
        does(x, NUMBER, 0, 70, 0);
        does(x, SET, 4, 1, 1, 0);
        Check.due("THINGS", x.count(0), 200);
        Check.due("items", x.count(1), 3000);
        return x;
    }

    private static void makes() {
        Check.by("0 MAKE: SLOT a becomes a row of KIND b (1, 2, 3, 4, 6, 7) of c items: SIZE, if c is below 0; NEW.");
        for (int kind : new int[] {1, 2, 3, 4, 6, 7}) {
            for (int size : new int[] {-1, -2, -3001, MIN + 1, MIN}) {
                fails("MAKE of " + size, oneOfEachFilled(), SIZE, MAKE, 1, kind, size, 0);
                fails("MAKE of " + size + " without room", withoutRoom(), SIZE, MAKE, 1, kind, size, 0);
            }
            fails("MAKE of too many", oneOfEachFilled(), ROOM, MAKE, 1, kind, 3001, 0);
            fails("MAKE of none without room", withoutRoom(), ROOM, MAKE, 1, kind, 0, 0);
            ThrowReports x = new ThrowReports();
            Check.due("MAKE of none", does(x, MAKE, 11, kind, 0), 0);
            Check.due("KIND", x.slot(11, 1), kind);
            Check.due("length", x.slot(11, 2), 0);
            Check.due("MAKE of one", does(x, MAKE, 11, kind, 1, MIN), 0);
            Check.due("KIND", x.slot(11, 1), kind);
            Check.due("length", x.slot(11, 2), 1);
            Check.due("THINGS", x.count(0), 2);
        }
    }

    private static void makesDeep() {
        Check.by("1 DEEP: .. of b rows of c ints each (THINGS after it, in order): SIZE, if b or c is below 0; NEW.");
        int[][] wrong = {{-1, 0}, {0, -1}, {-1, -1}, {MIN, 0}, {0, MIN}, {1, -1}, {-1, 1}, {MIN, MIN}, {MAX, -1}, {-1, MAX}, {200, MIN}};
        for (int[] size : wrong) {
            String what = "DEEP of " + size[0] + " by " + size[1];
            fails(what, oneOfEachFilled(), SIZE, DEEP, 1, size[0], size[1], 0);
            fails(what + " without room", withoutRoom(), SIZE, DEEP, 1, size[0], size[1], 0);
        }
        fails("DEEP of none without room", withoutRoom(), ROOM, DEEP, 1, 0, 0, 0);
        ThrowReports x = new ThrowReports();
        Check.due("DEEP of no rows", does(x, DEEP, 1, 0, 0), 0);
        Check.due("KIND", x.slot(1, 1), 5);
        Check.due("length", x.slot(1, 2), 0);
        Check.due("THINGS", x.count(0), 1);
        Check.due("DEEP of rows of none", does(x, DEEP, 1, 3, 0), 0);
        hasItems("its rows", x, 1, 3, 4, 5);
        Check.due("items", x.count(1), 3);
        Check.due("a row", does(x, TAKE, 2, 1, 5, 2), 0);
        Check.due("KIND of a row", x.slot(2, 1), 1);
        Check.due("length of a row", x.slot(2, 2), 0);
    }

    private static void makesThin() {
        Check.by("2 THIN: SLOT a becomes a row of KIND 5 of b items NOTHING: SIZE; NEW.");
        for (int size : new int[] {-1, -2, MIN}) {
            fails("THIN of " + size, oneOfEachFilled(), SIZE, THIN, 1, size, 0, 0);
            fails("THIN of " + size + " without room", withoutRoom(), SIZE, THIN, 1, size, 0, 0);
        }
        fails("THIN of too many", oneOfEachFilled(), ROOM, THIN, 1, 3001, 0, 0);
        fails("THIN of none without room", withoutRoom(), ROOM, THIN, 1, 0, 0, 0);
        ThrowReports x = new ThrowReports();
        Check.due("THIN of none", does(x, THIN, 1, 0, -1, -1), 0);
        Check.due("KIND", x.slot(1, 1), 5);
        Check.due("THIN of two", does(x, THIN, 1, 2, -1, -1), 0);
        Check.due("length", x.slot(1, 2), 2);
        hasItems("NOTHING", x, 1, 0, 0);
        Check.due("THINGS", x.count(0), 2);
    }

    private static void makesFigures() {
        Check.by("3 FIGURE: SLOT a becomes a FIGURE (b is 0) or ROUND (else) with NUMBER c: NEW.");
        for (int b : new int[] {MIN, -256, -1, 0, 1, 2, 8, 256, 1 << 16, MAX}) {
            for (int number : new int[] {MIN, -1, 0, 1, MAX}) {
                ThrowReports x = new ThrowReports();
                Check.due("FIGURE", does(x, FIGURE, 0, b, number, -1), 0);
                Check.due("KIND of FIGURE by " + b, x.slot(0, 1), b == 0 ? 8 : 9);
                Check.due("NUMBER", x.slot(0, 2), number);
                Check.due("THINGS", x.count(0), 1);
                Check.due("items", x.count(1), 0);
            }
            fails("FIGURE without room", withoutRoom(), ROOM, FIGURE, 4, b, 1, 0);
        }
    }

    private static void moves() {
        Check.by("4 MOVE: SLOT a becomes what SLOT b AS c (1 .. 9; 0: whatever it is) holds.");
        for (int held = 0; held <= 9; held++) {
            ThrowReports x = oneOfEach();
            Check.due("MOVE", does(x, MOVE, 11, held, 0), 0);
            Check.due("the same THING", x.slot(11, 0), held);
            Check.due("the same", x.alike(11, held), 1);
            Check.due("no THING more", x.count(0), 9);
            for (int kind = 1; kind <= 9; kind++) {
                Check.due("MOVE of NOTHING AS " + kind, does(x, MOVE, 11, 0, kind), 0);
                Check.due("NOTHING", x.slot(11, 0), 0);
            }
            Check.due("MOVE to itself", does(x, MOVE, held, held, held), 0);
            Check.due("as before", x.slot(held, 0), held);
        }
    }

    private static void sets() {
        Check.by("6 SET: .. becomes REGISTER d (of ints its lowest 32 bits, of bytes the lowest 8, with sign; of doubles those bits)");
        long[] values = {0, 1, -1, 127, 128, 255, 256, 383, -128, -129, -256, MAX, MAX + 1L, (1L << 32) - 1, 1L << 32, (1L << 32) + 5,
            MIN, MIN - 1L, -(1L << 32), Long.MAX_VALUE, Long.MIN_VALUE, 0x123456789ABCDEF0L, 0x80000000FFFFFF80L};
        long[] ints = {0, 1, -1, 127, 128, 255, 256, 383, -128, -129, -256, MAX, MIN, -1, 0, 5,
            MIN, MAX, 0, -1, 0, 0x9ABCDEF0, -128};
        long[] bytes = {0, 1, -1, 127, -128, -1, 0, 127, -128, 127, 0, -1, 0, -1, 0, 5,
            0, -1, 0, -1, 0, -16, -128};
        for (int v = 0; v < values.length; v++) {
            ThrowReports x = oneOfEach();
            put(x, 0, values[v]);
            for (int kind = 1; kind <= 3; kind++) {
                long want = kind == 1 ? ints[v] : kind == 2 ? bytes[v] : values[v];
                String what = "SET of " + values[v] + " in KIND " + kind;
                Check.due(what, does(x, SET, kind, kind, 2, 0), 0);
                hasItems(what, x, kind, 0, 0, want);
                Check.due(what, does(x, GET, 1, kind, kind, 2), 0);
                Check.due(what + ", GET", x.register(1), want);
                Check.due("the REGISTER stays", x.register(0), values[v]);
            }
        }
    }

    private static void takes() {
        Check.by("7 TAKE: SLOT a becomes ITEM d of the ROW in SLOT b AS c (5, 6, 7).");
        ThrowReports x = oneOfEach();
        does(x, LAY, 5, 5, 0, 1);
        does(x, LAY, 6, 6, 2, 8);
        does(x, LAY, 7, 7, 1, 9);
        Check.due("TAKE of a row", does(x, TAKE, 10, 5, 5, 0), 0);
        Check.due("the row itself", x.slot(10, 0), 1);
        Check.due("TAKE of the last", does(x, TAKE, 10, 6, 6, 2), 0);
        Check.due("the FIGURE itself", x.slot(10, 0), 8);
        Check.due("TAKE of ROUNDS AS FIGURES", does(x, TAKE, 10, 7, 6, 1), 0);
        Check.due("the ROUND itself", x.slot(10, 0), 9);
        Check.due("TAKE of NOTHING in a row", does(x, TAKE, 10, 7, 7, 2), 0);
        Check.due("NOTHING", x.slot(10, 0), 0);
        Check.due("TAKE to its own SLOT", does(x, TAKE, 7, 7, 7, 1), 0);
        Check.due("the ROUND itself", x.slot(7, 0), 9);
        Check.due("no THING more", x.count(0), 9);
    }

    private static void lays() {
        Check.by("8 LAY: .. then ITEM c of the ROW in SLOT a becomes what SLOT d holds");
        ThrowReports x = oneOfEach();
        Check.due("LAY of a ROUND in FIGURES", does(x, LAY, 6, 6, 0, 9), 0);
        Check.due("LAY of a ROUND in ROUNDS AS 6", does(x, LAY, 7, 6, 2, 9), 0);
        Check.due("LAY of NOTHING in ROUNDS AS 6", does(x, LAY, 7, 6, 1, 0), 0);
        Check.due("LAY of a row", does(x, LAY, 5, 5, 2, 1), 0);
        hasItems("FIGURES", x, 6, 9, 0, 0);
        hasItems("ROUNDS", x, 7, 0, 0, 9);
        hasItems("rows", x, 5, 0, 0, 1);
        Check.due("LAY of NOTHING in FIGURES", does(x, LAY, 6, 6, 0, 0), 0);
        hasItems("NOTHING", x, 6, 0, 0, 0);
        fails("LAY of a row in itself", oneOfEachFilled(), UNLIKE, LAY, 5, 5, 1, 5);
        fails("LAY of NOTHING in NOTHING", oneOfEachFilled(), NOTHING, LAY, 0, 5, 1, 0);
    }

    private static void laysStore() {
        Check.by("STORE, if that row has KIND 7 and this KIND 8.");
        fails("LAY of a FIGURE in ROUNDS AS 6", oneOfEachFilled(), STORE, LAY, 7, 6, 0, 8);
        fails("LAY of a FIGURE in ROUNDS AS 6, the last", oneOfEachFilled(), STORE, LAY, 7, 6, 2, 8);
        fails("LAY of a FIGURE in ROUNDS AS 7", oneOfEachFilled(), UNLIKE, LAY, 7, 7, 0, 8);
        fails("LAY of a FIGURE in FIGURES AS 7", oneOfEachFilled(), UNLIKE, LAY, 6, 7, 0, 8);
        fails("LAY of a ROUND in FIGURES AS 7", oneOfEachFilled(), UNLIKE, LAY, 6, 7, 0, 9);
    }

    private static void laysInOrder() {
        Check.by("Its questions are asked in the order told; the first that fails is its FAILURE");
        for (int i : new int[] {MIN, -1, 3, MAX}) {
            fails("LAY, PLACE ahead of STORE", oneOfEachFilled(), PLACE, LAY, 7, 6, i, 8);
            fails("LAY, UNLIKE of a row ahead of PLACE", oneOfEachFilled(), UNLIKE, LAY, 5, 6, i, 8);
            fails("LAY, UNLIKE of what is laid ahead of PLACE", oneOfEachFilled(), UNLIKE, LAY, 6, 6, i, 1);
            fails("LAY, UNLIKE of what is laid ahead of NOTHING", oneOfEachFilled(), UNLIKE, LAY, 0, 6, i, 1);
            fails("LAY, NOTHING ahead of PLACE", oneOfEachFilled(), NOTHING, LAY, 0, 6, i, 8);
            fails("LAY of NOTHING, PLACE", oneOfEachFilled(), PLACE, LAY, 6, 6, i, 0);
        }
    }

    private static void lengths() {
        Check.by("9 LENGTH: REGISTER a becomes how many items the ROW in SLOT b AS c (1 .. 7) has.");
        for (int kind = 1; kind <= 7; kind++) {
            for (int length : new int[] {0, 1, 3000}) {
                ThrowReports x = new ThrowReports();
                does(x, NUMBER, 7, -1, 0);
                makeOne(x, 11, kind, length);
                Check.due("LENGTH", does(x, LENGTH, 7, 11, kind), 0);
                Check.due("LENGTH of KIND " + kind, x.register(7), length);
            }
        }
        ThrowReports x = oneOfEach();
        Check.due("LENGTH of ROUNDS AS 6", does(x, LENGTH, 0, 7, 6), 0);
        Check.due("LENGTH of ROUNDS AS 6", x.register(0), 3);
    }

    private static void clones() {
        Check.by("10 CLONE: SLOT a becomes a row with the items of the ROW in SLOT b AS 1: NEW.");
        ThrowReports x = new ThrowReports();
        does(x, MAKE, 0, 1, 0);
        Check.due("CLONE of none", does(x, CLONE, 1, 0, -1, -1), 0);
        Check.due("another THING", x.slot(1, 0), 2);
        Check.due("length", x.slot(1, 2), 0);
        Check.due("alike", x.alike(0, 1), 2);
        does(x, MAKE, 0, 1, 3);
        put(x, 0, MIN);
        does(x, SET, 0, 1, 0, 0);
        put(x, 0, MAX);
        does(x, SET, 0, 1, 2, 0);
        Check.due("CLONE", does(x, CLONE, 2, 0, 0), 0);
        hasItems("CLONE", x, 2, MIN, 0, MAX);
        does(x, SET, 0, 1, 1, 0);
        hasItems("a row of its own", x, 2, MIN, 0, MAX);
        Check.due("CLONE to its own SLOT", does(x, CLONE, 2, 2, 0), 0);
        hasItems("CLONE to its own SLOT", x, 2, MIN, 0, MAX);
        Check.due("another THING", x.slot(2, 0), 5);
        Check.due("items", x.count(1), 9);
        fails("CLONE without room", withoutRoom(), ROOM, CLONE, 5, 1, 0, 0);
        fails("CLONE to its own SLOT without room", withoutRoom(), ROOM, CLONE, 1, 1, 0, 0);
        fails("CLONE to another row's SLOT without room", withoutRoom(), ROOM, CLONE, 1, 4, 0, 0);
        fails("CLONE of NOTHING without room", withoutRoom(), NOTHING, CLONE, 1, 5, 0, 0);
        fails("CLONE of another KIND without room", withoutRoom(), UNLIKE, CLONE, 1, 0, 0, 0);
    }

    private static void tells() {
        Check.by("11 TELLS: REGISTER a becomes what SLOT b AS 8 TELLS: NOTHING.");
        ThrowReports x = oneOfEach();
        Check.due("TELLS of a FIGURE", does(x, TELLS, 7, 8, -1, -1), 0);
        Check.due("a FIGURE", x.register(7), 5);
        Check.due("TELLS of a ROUND", does(x, TELLS, 0, 9, -1, -1), 0);
        Check.due("a ROUND", x.register(0), 11);
        fails("TELLS of NOTHING", oneOfEachFilled(), NOTHING, TELLS, 3, 0, 0, 0);
    }

    private static void numbers() {
        Check.by("13 NUMBER: REGISTER a becomes b.");
        for (int number : AROUND) {
            for (int r = 0; r < 8; r++) {
                ThrowReports x = new ThrowReports();
                Check.due("NUMBER", does(x, NUMBER, r, number, -1, -1), 0);
                Check.due("NUMBER", x.register(r), number);
            }
        }
    }

    private static void adds() {
        Check.by("14 ADD: REGISTER a becomes REGISTERS b and c together (wrapping).");
        long[][] sums = {{1, 2, 3}, {MAX, 1, MAX + 1L}, {MIN, -1, MIN - 1L}, {Long.MAX_VALUE, 1, Long.MIN_VALUE},
            {Long.MIN_VALUE, -1, Long.MAX_VALUE}, {Long.MIN_VALUE, Long.MIN_VALUE, 0}, {Long.MAX_VALUE, Long.MAX_VALUE, -2}};
        for (long[] sum : sums) {
            ThrowReports x = new ThrowReports();
            put(x, 1, sum[0]);
            put(x, 2, sum[1]);
            Check.due("ADD", does(x, ADD, 3, 1, 2), 0);
            Check.due(sum[0] + " and " + sum[1], x.register(3), sum[2]);
            Check.due("ADD to its own", does(x, ADD, 1, 1, 2), 0);
            Check.due("to its own", x.register(1), sum[2]);
        }
    }

    private static void divides() {
        Check.by("15 DIVIDE: REGISTER a becomes REGISTER b by REGISTER c, cut toward 0 (wrapping). 16 REST: likewise what is left");
        long least = Long.MIN_VALUE;
        long[][] divisions = {{7, 2, 3, 1}, {-7, 2, -3, -1}, {7, -2, -3, 1}, {-7, -2, 3, -1}, {1, 2, 0, 1}, {-1, 2, 0, -1},
            {0, 5, 0, 0}, {least, -1, least, 0}, {least, 1, least, 0}, {least, least, 1, 0}, {Long.MAX_VALUE, least, 0, Long.MAX_VALUE},
            {least, Long.MAX_VALUE, -1, -1}, {MIN, -1, MAX + 1L, 0}, {least, 2, least / 2, 0}, {5, 1L << 32, 0, 5}};
        for (long[] n : divisions) {
            ThrowReports x = new ThrowReports();
            put(x, 1, n[0]);
            put(x, 2, n[1]);
            Check.due("DIVIDE", does(x, DIVIDE, 3, 1, 2), 0);
            Check.due(n[0] + " by " + n[1], x.register(3), n[2]);
            Check.due("REST", does(x, REST, 4, 1, 2), 0);
            Check.due("what is left of " + n[0] + " by " + n[1], x.register(4), n[3]);
            Check.due("DIVIDE to its own", does(x, DIVIDE, 2, 1, 2), 0);
            Check.due("to its own", x.register(2), n[2]);
        }
    }

    private static void divisionsByZero() {
        Check.by("15 DIVIDE: .. ZERO. 16 REST: .. ZERO.");
        for (long number : new long[] {0, 1, -1, Long.MIN_VALUE, Long.MAX_VALUE}) {
            for (int op : new int[] {DIVIDE, REST}) {
                for (int to = 1; to <= 3; to++) {
                    ThrowReports x = new ThrowReports();
                    put(x, 1, number);
                    put(x, 3, 9);
                    fails("op " + op + " of " + number + " by 0", x, ZERO, op, to, 1, 2, 0);
                }
            }
        }
        ThrowReports x = new ThrowReports();
        put(x, 2, 1L << 32);
        Check.due("by what has but zeros in its lowest 32 bits", does(x, DIVIDE, 1, 2, 2), 0);
        Check.due("by itself", x.register(1), 1);
    }

    private static void failsOnItsOwn() {
        Check.by("17 FAIL: OWN.");
        for (int n : AROUND) {
            fails("FAIL", oneOfEachFilled(), OWN, FAIL, n, n, n, n);
        }
    }
}

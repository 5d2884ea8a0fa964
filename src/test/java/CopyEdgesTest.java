/** "12 COPY" of "==== 2": how many items come, from where to where, and by what it fails. */
public final class CopyEdgesTest extends Words {
    public static void main(String[] args) {
        howMany();
        places();
        placesThatWrap();
        emptyRows();
        oneRow();
        nothing();
        kindsThatMeet();
        inOrder();
        storesOnTheWay();
        storesOfRows();
        storesNothingAtAll();
        storesOfOneKind();
        howManyCame();
        Check.end();
    }

    /** SLOT 0 a row of 5 items 1 .. 5, SLOT 1 one of 4 items 0; REGISTER 7 tells how many come. */
    private static ThrowReports rows(int kind, long number) {
        ThrowReports x = new ThrowReports();
        does(x, MAKE, 0, kind, 5);
        does(x, MAKE, 1, kind, 4);
        for (int i = 0; i < 5; i++) {
            does(x, NUMBER, 0, i + 1, 0);
            does(x, SET, 0, kind, i, 0);
        }
        put(x, 7, number);
        return x;
    }

    private static void comes(String what, ThrowReports x, int a, int b, int c, int d, int came) {
        Check.due(what, does(x, COPY, a, b, c, d), 0);
        Check.due(what + ": items that came", x.ran(2), came);
        Check.due(what + ": ACTS that failed", x.ran(1), 0);
    }

    private static void fails(String what, ThrowReports x, int want, int a, int b, int c, int d) {
        String before = Seen.ofMachine(x);
        Check.due(what, does(x, COPY, a, b, c, d), want);
        Check.same(what + " has changed nothing", Seen.ofMachine(x), before);
        Check.due(what + ": items that came", x.ran(2), 0);
        Check.due(what + ": ACTS that failed", x.ran(1), 1);
    }

    private static void howMany() {
        Check.by("12 COPY: n (the lowest 32 bits of REGISTER 7, with sign) items");
        for (int kind = 1; kind <= 4; kind++) {
            for (long number : new long[] {2, (1L << 32) + 2, -(1L << 32) + 2, Long.MIN_VALUE + 2, (7L << 33) + 2}) {
                ThrowReports x = rows(kind, number);
                comes("COPY of " + number, x, 0, 2, 1, 1, 2);
                hasItems("COPY of " + number, x, 1, 0, 3, 4, 0);
                hasItems("COPY of " + number, x, 0, 1, 2, 3, 4, 5);
            }
            for (long number : new long[] {0, 1L << 32, -(1L << 32), Long.MIN_VALUE}) {
                ThrowReports x = rows(kind, number);
                comes("COPY of " + number, x, 0, 2, 1, 1, 0);
                hasItems("COPY of " + number, x, 1, 0, 0, 0, 0);
            }
            for (long number : new long[] {-1, MIN, MAX, MAX + 1L, (1L << 32) - 1, Long.MAX_VALUE, (1L << 32) + 5, (1L << 33) - 2}) {
                fails("COPY of " + number, rows(kind, number), PLACE, 0, 0, 1, 0);
            }
        }
    }

    private static void places() {
        Check.by("PLACE, if b, d or n is below 0, or b + n, d + n above the length");
        for (int kind = 1; kind <= 4; kind++) {
            for (int number = -2; number <= 6; number++) {
                for (int from = -2; from <= 6; from++) {
                    for (int to = -2; to <= 6; to++) {
                        placed(kind, number, from, to);
                    }
                }
            }
        }
    }

    private static void placed(int kind, int number, int from, int to) {
        ThrowReports x = rows(kind, number);
        String what = "COPY of " + number + " from " + from + " to " + to;
        if (number < 0 || from < 0 || to < 0 || from + number > 5 || to + number > 4) {
            fails(what, x, PLACE, 0, from, 1, to);
            return;
        }
        comes(what, x, 0, from, 1, to, number);
        for (int i = 0; i < 4; i++) {
            Check.due(what, x.item(1, i), i >= to && i < to + number ? from + i - to + 1 : 0);
        }
    }

    private static void placesThatWrap() {
        Check.by("PLACE, if b, d or n is below 0, or b + n, d + n above the length");
        int[] far = {MAX, MAX - 1, MAX - 3, MIN, MIN + 1, 1 << 30};
        for (int number : new int[] {0, 1, 4, MAX, MAX - 1, MIN, 1 << 30}) {
            for (int place : far) {
                fails("COPY of " + number + " from " + place, rows(1, number), PLACE, 0, place, 1, 0);
                fails("COPY of " + number + " to " + place, rows(1, number), PLACE, 0, 0, 1, place);
                fails("COPY of " + number + " from and to " + place, rows(1, number), PLACE, 0, place, 1, place);
            }
        }
    }

    private static void emptyRows() {
        Check.by("PLACE, if .. b + n, d + n above the length");
        for (int kind = 1; kind <= 7; kind++) {
            ThrowReports x = new ThrowReports();
            makeOne(x, 0, kind, 0);
            makeOne(x, 1, kind, 0);
            makeOne(x, 2, kind, 2);
            comes("none of none", x, 0, 0, 1, 0, 0);
            comes("none of none to itself", x, 0, 0, 0, 0, 0);
            comes("none behind the last", x, 2, 2, 0, 0, 0);
            comes("none behind the last", x, 0, 0, 2, 2, 0);
            fails("none behind that", x, PLACE, 0, 1, 1, 0);
            fails("none behind that", x, PLACE, 2, 3, 0, 0);
            fails("none behind that", x, PLACE, 2, 0, 2, 3);
            fails("none ahead of the first", x, PLACE, 0, -1, 1, 0);
        }
    }

    private static void oneRow() {
        Check.by("(all as they were before, if it is one row)");
        for (int kind = 1; kind <= 4; kind++) {
            for (int other = 0; other <= 2; other += 2) {
                ThrowReports x = rows(kind, 4);
                does(x, MOVE, 2, 0, 0);
                comes("COPY to behind", x, 0, 0, other, 1, 4);
                hasItems("COPY to behind", x, 0, 1, 1, 2, 3, 4);
                x = rows(kind, 4);
                does(x, MOVE, 2, 0, 0);
                comes("COPY to ahead", x, other, 1, 0, 0, 4);
                hasItems("COPY to ahead", x, 0, 2, 3, 4, 5, 5);
                x = rows(kind, 5);
                does(x, MOVE, 2, 0, 0);
                comes("COPY to where it is", x, 0, 0, other, 0, 5);
                hasItems("COPY to where it is", x, 0, 1, 2, 3, 4, 5);
            }
        }
        for (int kind = 5; kind <= 7; kind++) {
            ThrowReports x = oneOfEach();
            int laid = kind == 5 ? 1 : 9;
            does(x, LAY, kind, kind, 0, laid);
            does(x, NUMBER, 7, 2, 0);
            comes("COPY to behind", x, kind, 0, kind, 1, 2);
            hasItems("COPY to behind", x, kind, laid, laid, 0);
            comes("COPY to ahead", x, kind, 1, kind, 0, 2);
            hasItems("COPY to ahead", x, kind, laid, 0, 0);
        }
    }

    private static void nothing() {
        Check.by("NOTHING, if one holds NOTHING");
        for (int held = 0; held <= 9; held++) {
            fails("COPY of " + held + " to NOTHING", oneOfEach(), NOTHING, held, 0, 0, 0);
            fails("COPY of NOTHING to " + held, oneOfEach(), NOTHING, 0, 0, held, 0);
            fails("COPY of NOTHING from nowhere to " + held, oneOfEach(), NOTHING, 0, -1, held, MAX);
        }
    }

    private static boolean meet(int one, int other) {
        return one <= 4 && one == other || one >= 5 && one <= 7 && other >= 5 && other <= 7;
    }

    private static void kindsThatMeet() {
        Check.by("STORE, if they do not MEET .. KINDS MEET: two rows that are of one KIND, or both of 5, 6, 7.");
        for (int one = 1; one <= 9; one++) {
            for (int other = 1; other <= 9; other++) {
                String what = "COPY of " + one + " to " + other;
                if (!meet(one, other)) {
                    fails(what, oneOfEach(), STORE, one, 0, other, 0);
                    continue;
                }
                ThrowReports x = oneOfEach();
                does(x, NUMBER, 7, 3, 0);
                comes(what, x, one, 0, other, 0, 3);
            }
        }
    }

    private static void inOrder() {
        Check.by("NOTHING, if one holds NOTHING; STORE, if they do not MEET; PLACE, ..; then item by item");
        for (int place : new int[] {MIN, -1, 4, MAX}) {
            fails("STORE ahead of PLACE", oneOfEach(), STORE, 1, place, 2, 0);
            fails("STORE ahead of PLACE", oneOfEach(), STORE, 8, 0, 6, place);
            fails("STORE of a FIGURE to itself ahead of PLACE", oneOfEach(), STORE, 8, place, 8, place);
        }
        ThrowReports x = figures();
        does(x, NUMBER, 7, 5, 0);
        fails("PLACE ahead of an item's STORE", x, PLACE, 0, 0, 1, 0);
        does(x, NUMBER, 7, 4, 0);
        fails("PLACE ahead of an item's STORE", x, PLACE, 0, 0, 1, 1);
        does(x, NUMBER, 7, -1, 0);
        fails("PLACE ahead of an item's STORE", x, PLACE, 0, 2, 1, 0);
    }

    /** SLOT 0 a row of FIGURES: ROUND 3, NOTHING, FIGURE 4, ROUND 3; SLOT 1 one of 4 ROUNDS 3. */
    private static ThrowReports figures() {
        ThrowReports x = new ThrowReports();
        does(x, MAKE, 0, 6, 4);
        does(x, MAKE, 1, 7, 4);
        does(x, FIGURE, 2, 1, 5);
        does(x, FIGURE, 3, 0, 5);
        does(x, LAY, 0, 6, 0, 2);
        does(x, LAY, 0, 6, 2, 3);
        does(x, LAY, 0, 6, 3, 2);
        does(x, FIGURE, 4, 1, 7);
        for (int i = 0; i < 4; i++) {
            does(x, LAY, 1, 7, i, 4);
        }
        return x;
    }

    private static void stores(String what, ThrowReports x, int b, int d, int came) {
        Check.due(what, does(x, COPY, 0, b, 1, d), STORE);
        Check.due(what + ": items that came", x.ran(2), came);
        Check.due(what + ": ACTS that failed", x.ran(1), 1);
    }

    private static void storesOnTheWay() {
        Check.by("then item by item, the first one first: STORE at one that IS not what that row's items are (those before it have come).");
        ThrowReports x = figures();
        does(x, NUMBER, 7, 4, 0);
        stores("the third one", x, 0, 0, 2);
        hasItems("those before it have come", x, 1, 3, 0, 5, 5);
        x = figures();
        does(x, NUMBER, 7, 3, 0);
        stores("the last one", x, 0, 1, 2);
        hasItems("those before it have come", x, 1, 5, 3, 0, 5);
        x = figures();
        does(x, NUMBER, 7, 2, 0);
        stores("the first one", x, 2, 0, 0);
        hasItems("none has come", x, 1, 5, 5, 5, 5);
        comes("those before it alone", x, 0, 0, 1, 2, 2);
        hasItems("those before it alone", x, 1, 5, 5, 3, 0);
        does(x, NUMBER, 7, 1, 0);
        comes("the one behind it alone", x, 0, 3, 1, 0, 1);
        hasItems("the one behind it alone", x, 1, 3, 5, 3, 0);
        does(x, NUMBER, 7, 0, 0);
        comes("none of it", x, 0, 2, 1, 2, 0);
    }

    private static void storesOfRows() {
        Check.by("STORE at one that IS not what that row's items are");
        for (int from = 5; from <= 7; from++) {
            for (int to = 5; to <= 7; to++) {
                ThrowReports x = oneOfEach();
                int laid = from == 5 ? 1 : from == 6 ? 8 : 9;
                does(x, LAY, from, from, 1, laid);
                does(x, NUMBER, 7, 3, 0);
                boolean takes = from == to || from == 7 && to == 6;
                String what = "COPY of " + from + " to " + to;
                Check.due(what, does(x, COPY, from, 0, to, 0), takes ? 0 : STORE);
                Check.due(what + ": items that came", x.ran(2), takes ? 3 : 1);
                hasItems(what, x, to, 0, takes ? laid : 0, 0);
            }
        }
    }

    private static void storesNothingAtAll() {
        Check.by("of KIND 5, 6, 7 (NOTHING at first) NOTHING or a THING that IS of KIND 1, 8, 9");
        for (int from = 5; from <= 7; from++) {
            for (int to = 5; to <= 7; to++) {
                ThrowReports x = oneOfEach();
                int laid = to == 5 ? 1 : to == 6 ? 8 : 9;
                makeOne(x, 10, to, 3);
                does(x, LAY, 10, to, 1, laid);
                does(x, NUMBER, 7, 2, 0);
                comes("NOTHING of " + from + " to " + to, x, from, 0, 10, 1, 2);
                hasItems("NOTHING of " + from + " to " + to, x, 10, 0, 0, 0);
            }
        }
    }

    private static void storesOfOneKind() {
        Check.by("STORE at one that IS not what that row's items are");
        ThrowReports x = figures();
        does(x, MAKE, 5, 6, 4);
        does(x, NUMBER, 7, 4, 0);
        comes("FIGURES to FIGURES", x, 0, 0, 5, 0, 4);
        hasItems("FIGURES to FIGURES", x, 5, 3, 0, 4, 3);
        comes("ROUNDS to FIGURES", x, 1, 0, 5, 0, 4);
        hasItems("ROUNDS to FIGURES", x, 5, 5, 5, 5, 5);
        comes("ROUNDS in FIGURES to ROUNDS", x, 5, 0, 1, 0, 4);
    }

    private static void howManyCame() {
        Check.by("Promise 8, 2 items that came by its COPIES");
        ThrowReports x = figures();
        does(x, NUMBER, 7, 3, 0);
        int stored = x.guard(x.act(COPY, 0, 0, 1, 0), set(STORE), -1, -1);
        int whole = x.act(COPY, 0, 0, 0, 1);
        Check.due("run", x.run(x.both(stored, x.both(stored, whole))), 0);
        Check.due("items that came", x.ran(2), 2 + 2 + 3);
        Check.due("ACTS that failed", x.ran(1), 2);
        Check.due("run of none", x.run(x.act(NUMBER, 0, 0, 0, 0)), 0);
        Check.due("items that came", x.ran(2), 0);
    }
}

/** "==== 1": the limits of THINGS, KINDS, items, SLOTS and REGISTERS, sentence by sentence. */
public final class ThingEdgesTest extends Words {
    private static final long NO_NUMBER = 0x7FF8000000000000L;

    public static void main(String[] args) {
        numbersOfThings();
        mostThings();
        mostThingsOfDeep();
        numbersAfterClear();
        doublesThatAreNumbers();
        doublesThatAreNone();
        whatKindsAre();
        itemsAtFirst();
        itemsAtFirstAgain();
        mostItemsOfOneRow();
        mostItemsTogether();
        itemsThatWrap();
        whatFiguresTell();
        slots();
        registers();
        Check.end();
    }

    private static void numbersOfThings() {
        Check.by("THINGS are made one by one and numbered 1, 2, .. (200 at most; 0 is NOTHING)");
        ThrowReports x = new ThrowReports();
        does(x, FIGURE, 0, 0, 5);
        Check.due("the first", x.slot(0, 0), 1);
        does(x, MAKE, 1, 1, 2);
        Check.due("the second", x.slot(1, 0), 2);
        does(x, DEEP, 2, 2, 1);
        Check.due("a row of rows", x.slot(2, 0), 3);
        hasItems("its rows after it", x, 2, 4, 5);
        does(x, THIN, 3, 4, 0);
        Check.due("the next", x.slot(3, 0), 6);
        does(x, CLONE, 4, 1, 0);
        Check.due("a clone", x.slot(4, 0), 7);
        does(x, MAKE, 5, 1, -1);
        does(x, MAKE, 5, 1, 3001);
        Check.due("one that is not made has no number", x.slot(5, 0), 0);
        does(x, FIGURE, 5, 1, 5);
        Check.due("the next", x.slot(5, 0), 8);
        does(x, MOVE, 0, 11, 0);
        Check.due("NOTHING", x.slot(0, 0), 0);
        Check.due("THINGS that no SLOT holds are THINGS", x.count(0), 8);
    }

    /** The ways to make one THING, into a SLOT; SLOT 1 holds a row of no ints. */
    private static int makesOne(ThrowReports x, int way, int slot) {
        switch (way) {
            case 0: return does(x, MAKE, slot, 1, 0);
            case 1: return does(x, MAKE, slot, 7, 0);
            case 2: return does(x, DEEP, slot, 0, 9);
            case 3: return does(x, THIN, slot, 0, 0);
            case 4: return does(x, FIGURE, slot, 0, 5);
            case 5: return does(x, FIGURE, slot, 1, 5);
            default: return does(x, CLONE, slot, 1, 0);
        }
    }

    private static void mostThings() {
        Check.by("NEW: ROOM, if there would be more than 200 THINGS or 3000 items.");
        for (int way = 0; way < 7; way++) {
            ThrowReports x = new ThrowReports();
            does(x, DEEP, 0, 197, 0);
            does(x, MAKE, 1, 1, 0);
            Check.due("THINGS", x.count(0), 199);
            Check.due("the 200th", makesOne(x, way, 2), 0);
            Check.due("its number", x.slot(2, 0), 200);
            Check.due("THINGS", x.count(0), 200);
            String before = Seen.ofMachine(x);
            for (int more = 0; more < 7; more++) {
                Check.due("the 201st", makesOne(x, more, 2), ROOM);
            }
            Check.same("no THING more", Seen.ofMachine(x), before);
        }
    }

    private static void mostThingsOfDeep() {
        Check.by("1 DEEP: .. of b rows of c ints each (THINGS after it, in order): .. NEW.");
        ThrowReports x = new ThrowReports();
        Check.due("201 THINGS", does(x, DEEP, 0, 200, 0), ROOM);
        Check.due("200 THINGS", does(x, DEEP, 0, 199, 0), 0);
        Check.due("THINGS", x.count(0), 200);
        Check.due("the last row", x.item(0, 198), 200);
        x.clear();
        does(x, DEEP, 0, 197, 0);
        Check.due("THINGS", x.count(0), 198);
        String before = Seen.ofMachine(x);
        Check.due("201 THINGS", does(x, DEEP, 1, 2, 0), ROOM);
        Check.same("none of them made", Seen.ofMachine(x), before);
        Check.due("200 THINGS", does(x, DEEP, 1, 1, 0), 0);
        Check.due("the row", x.item(1, 0), 200);
    }

    private static void numbersAfterClear() {
        Check.by("Promise 9, THINGS go: how many there were.");
        ThrowReports x = new ThrowReports();
        does(x, DEEP, 0, 199, 0);
        Check.due("clear", x.clear(), 200);
        Check.due("THINGS", x.count(0), 0);
        Check.due("items", x.count(1), 0);
        for (int way = 0; way < 6; way++) {
            Check.due("one more", makesOne(x, way, way), 0);
            Check.due("its number", x.slot(way, 0), way + 1);
        }
        x.clear();
        Check.due("all the room again", does(x, DEEP, 0, 199, 14), 0);
        Check.due("items", x.count(1), 199 * 15);
    }

    private static void doubleIs(long bits, long want) {
        ThrowReports x = new ThrowReports();
        String what = "the double of " + Long.toHexString(bits);
        put(x, 0, bits);
        does(x, MAKE, 0, 4, 3);
        Check.due(what, does(x, SET, 0, 4, 1, 0), 0);
        Check.due(what, x.item(0, 1), want);
        Check.due(what + ", the one before", x.item(0, 0), 0);
        Check.due(what + ", the one behind", x.item(0, 2), 0);
        Check.due(what + ", the REGISTER", x.register(0), bits);
        does(x, GET, 1, 0, 4, 1);
        Check.due(what + ", by GET", x.register(1), want);
        does(x, MAKE, 1, 4, 3);
        does(x, NUMBER, 7, 3, 0);
        does(x, COPY, 0, 0, 1, 0);
        Check.due(what + ", by COPY", x.item(1, 1), want);
        Check.due(what + ", alike", x.alike(0, 1), 2);
        does(x, MAKE, 2, 3, 3);
        does(x, SET, 2, 3, 1, 0);
        Check.due("the long of these bits", x.item(2, 1), bits);
    }

    private static void doublesThatAreNumbers() {
        Check.by("4 of doubles (told by their 64 bits; any that is none by 0x7FF8000000000000)");
        for (long bits : new long[] {0, 1, 0x000FFFFFFFFFFFFFL, 0x0010000000000000L, 0x3FF0000000000000L, 0x7FEFFFFFFFFFFFFFL,
            0x7FF0000000000000L}) {
            doubleIs(bits, bits);
            doubleIs(bits | Long.MIN_VALUE, bits | Long.MIN_VALUE);
        }
    }

    private static void doublesThatAreNone() {
        Check.by("4 of doubles (told by their 64 bits; any that is none by 0x7FF8000000000000)");
        for (long bits : new long[] {0x7FF0000000000001L, 0x7FF00000FFFFFFFFL, 0x7FF7FFFFFFFFFFFFL, NO_NUMBER,
            0x7FF8000000000001L, 0x7FFFFFFF00000000L, 0x7FFFFFFFFFFFFFFFL}) {
            doubleIs(bits, NO_NUMBER);
            doubleIs(bits | Long.MIN_VALUE, NO_NUMBER);
        }
    }

    private static void whatKindsAre() {
        Check.by("It IS of its KIND; a ROUND IS of KIND 8, too, a row of ROUNDS of KIND 6, too.");
        for (int held = 0; held <= 9; held++) {
            ThrowReports x = oneOfEach();
            int one = x.act(NUMBER, 0, 1, 0, 0);
            int other = x.act(NUMBER, 0, 2, 0, 0);
            Check.due("its KIND", x.slot(held, 1), held);
            for (int kind = 1; kind <= 9; kind++) {
                boolean is = held == kind || held == 9 && kind == 8 || held == 7 && kind == 6;
                x.run(x.choice(held, kind, one, other));
                Check.due("CHOICE: " + held + " IS of KIND " + kind, x.register(0), is ? 1 : 2);
                int failure = x.run(x.act(MOVE, 11, held, kind, 0));
                Check.due("AS: " + held + " IS of KIND " + kind, failure, is || held == 0 ? 0 : UNLIKE);
            }
        }
    }

    private static void itemsAtFirst() {
        Check.by("Rows have items 0, 1, ..: numbers (0 at first); of KIND 5, 6, 7 (NOTHING at first)");
        for (int kind = 1; kind <= 7; kind++) {
            ThrowReports x = new ThrowReports();
            makeOne(x, 0, kind, 5);
            makeOne(x, 1, kind, 0);
            makeOne(x, 2, kind, 1);
            Check.due("five items", x.slot(0, 2), 5);
            Check.due("no items", x.slot(1, 2), 0);
            Check.due("one item", x.slot(2, 2), 1);
            Check.due("items", x.count(1), 6);
            hasItems("KIND " + kind, x, 0, 0, 0, 0, 0, 0);
            hasItems("KIND " + kind, x, 2, 0);
            int op = kind < 5 ? GET : TAKE;
            Check.due("the first", does(x, op, 3, 0, kind, 0), 0);
            Check.due("the last", does(x, op, 3, 0, kind, 4), 0);
            Check.due("behind the last", does(x, op, 3, 0, kind, 5), PLACE);
            Check.due("none", does(x, op, 3, 1, kind, 0), PLACE);
            Check.due("the one", does(x, op, 3, 2, kind, 0), 0);
            Check.due("0", x.register(3), 0);
            Check.due("NOTHING", x.slot(3, 0), 0);
        }
        ThrowReports x = new ThrowReports();
        does(x, DEEP, 0, 2, 2);
        does(x, TAKE, 1, 0, 5, 0);
        does(x, TAKE, 2, 0, 5, 1);
        hasItems("a row in a row", x, 1, 0, 0);
        hasItems("a row in a row", x, 2, 0, 0);
    }

    private static void itemsAtFirstAgain() {
        Check.by("Rows have items 0, 1, ..: numbers (0 at first); of KIND 5, 6, 7 (NOTHING at first)");
        for (int kind = 1; kind <= 8; kind++) {
            ThrowReports x = new ThrowReports();
            does(x, MAKE, 0, 3, 20);
            does(x, NUMBER, 0, -1, 0);
            for (int i = 0; i < 20; i++) {
                does(x, SET, 0, 3, i, 0);
            }
            x.clear();
            Check.due("made where others were", kind == 8 ? does(x, DEEP, 0, 2, 4) : makeOne(x, 0, kind, 9), 0);
            if (kind == 8) {
                does(x, TAKE, 0, 0, 5, 1);
            }
            hasItems("after clear()", x, 0, 0, 0, 0, 0, 0, 0, 0, 0, 0);
        }
    }

    /** A row with so many items, in one of four ways. */
    private static int makesLong(ThrowReports x, int way, int items) {
        switch (way) {
            case 0: return does(x, MAKE, 0, 2, items);
            case 1: return does(x, MAKE, 0, 6, items);
            case 2: return does(x, THIN, 0, items, 0);
            default: return does(x, DEEP, 0, 1, items - 1);
        }
    }

    private static void mostItemsOfOneRow() {
        Check.by("All rows together have 3000 items at most.");
        for (int way = 0; way < 4; way++) {
            ThrowReports x = new ThrowReports();
            Check.due("3001 items", makesLong(x, way, 3001), ROOM);
            Check.due("no end of items", makesLong(x, way, MAX), ROOM);
            Check.due("nothing made", x.count(0) + x.count(1) + x.slot(0, 0), 0);
            Check.due("3000 items", makesLong(x, way, 3000), 0);
            Check.due("items", x.count(1), 3000);
            Check.due("one more", does(x, MAKE, 1, 1, 1), ROOM);
            Check.due("one more", does(x, THIN, 1, 1, 0), ROOM);
            Check.due("one more", does(x, DEEP, 1, 1, 0), ROOM);
            Check.due("no end more", does(x, MAKE, 1, 4, MAX), ROOM);
            Check.due("no end more", does(x, THIN, 1, MAX, 0), ROOM);
            Check.due("a row of none", does(x, MAKE, 1, 1, 0), 0);
            Check.due("a clone of none", does(x, CLONE, 2, 1, 0), 0);
            Check.due("a row of no rows", does(x, DEEP, 3, 0, MAX), 0);
            Check.due("a thin row of none", does(x, THIN, 4, 0, 0), 0);
            Check.due("a FIGURE has no items", does(x, FIGURE, 5, 0, 3000), 0);
            Check.due("a ROUND has no items", does(x, FIGURE, 6, 1, 3000), 0);
            int[] kinds = {1, 1, 5, 5, 8, 9};
            int before = way == 3 ? 2 : 1;
            for (int slot = 1; slot <= 6; slot++) {
                Check.due("the THING in SLOT " + slot, x.slot(slot, 0), before + slot);
                Check.due("its KIND", x.slot(slot, 1), kinds[slot - 1]);
            }
            Check.due("THINGS", x.count(0), before + 6);
            Check.due("items", x.count(1), 3000);
        }
    }

    private static void mostItemsTogether() {
        Check.by("All rows together have 3000 items at most.");
        ThrowReports x = new ThrowReports();
        does(x, MAKE, 0, 1, 1500);
        Check.due("a clone to 3000", does(x, CLONE, 1, 0, 0), 0);
        Check.due("items", x.count(1), 3000);
        Check.due("a clone more", does(x, CLONE, 2, 0, 0), ROOM);
        x.clear();
        does(x, MAKE, 0, 1, 1501);
        Check.due("a clone to 3002", does(x, CLONE, 1, 0, 0), ROOM);
        Check.due("up to 3001", does(x, MAKE, 1, 3, 1500), ROOM);
        Check.due("up to 3000", does(x, MAKE, 1, 3, 1499), 0);
        x.clear();
        Check.due("3000 of rows in a row", does(x, DEEP, 0, 10, 299), 0);
        Check.due("items", x.count(1), 3000);
        x.clear();
        Check.due("3010 of rows in a row", does(x, DEEP, 0, 10, 300), ROOM);
        does(x, MAKE, 0, 7, 1);
        Check.due("3001 with those before", does(x, DEEP, 1, 10, 299), ROOM);
        Check.due("2991 with those before", does(x, DEEP, 1, 10, 298), 0);
        Check.due("items", x.count(1), 2991);
    }

    private static void itemsThatWrap() {
        Check.by("NEW: ROOM, if there would be more than 200 THINGS or 3000 items.");
        ThrowReports x = new ThrowReports();
        does(x, MAKE, 0, 1, 5);
        String before = Seen.ofMachine(x);
        int[][] sizes = {{MAX, MAX}, {MAX, 0}, {65536, 65536}, {1 << 30, 4}, {128, 1 << 25}, {64, 1 << 26}, {1, MAX}, {2, MAX},
            {4, (1 << 30) - 1}, {199, MAX}, {MAX, 1}, {1 << 16, (1 << 16) - 1}};
        for (int[] size : sizes) {
            Check.due("DEEP " + size[0] + " by " + size[1], does(x, DEEP, 1, size[0], size[1]), ROOM);
        }
        Check.due("MAKE", does(x, MAKE, 1, 1, MAX), ROOM);
        Check.due("MAKE", does(x, MAKE, 1, 1, MAX - 4), ROOM);
        Check.due("THIN", does(x, THIN, 1, MAX, MAX), ROOM);
        Check.same("nothing made", Seen.ofMachine(x), before);
    }

    private static void whatFiguresTell() {
        Check.by("A FIGURE has a NUMBER (an int); it TELLS that; a ROUND TELLS twice that and 1 (wrapping).");
        int[] numbers = {0, 1, -1, 5, -7, (1 << 30) - 1, 1 << 30, MAX - 1, MAX, -(1 << 30) - 1, -(1 << 30), MIN + 1, MIN};
        int[] rounds = {1, 3, -1, 11, -13, MAX, MIN + 1, -3, -1, MAX, MIN + 1, 3, 1};
        for (int i = 0; i < numbers.length; i++) {
            ThrowReports x = new ThrowReports();
            does(x, FIGURE, 0, 0, numbers[i]);
            does(x, FIGURE, 1, 1, numbers[i]);
            Check.due("NUMBER of a FIGURE", x.slot(0, 2), numbers[i]);
            Check.due("NUMBER of a ROUND", x.slot(1, 2), numbers[i]);
            Check.due("TELLS", does(x, TELLS, 2, 0, 0), 0);
            Check.due("TELLS", does(x, TELLS, 3, 1, 0), 0);
            Check.due("a FIGURE of " + numbers[i] + " TELLS", x.register(2), numbers[i]);
            Check.due("a ROUND of " + numbers[i] + " TELLS", x.register(3), rounds[i]);
        }
    }

    private static void slots() {
        Check.by("SLOTS 0 .. 11 each hold a THING or NOTHING");
        ThrowReports x = new ThrowReports();
        for (int slot = 11; slot >= 0; slot--) {
            Check.due("NOTHING", x.slot(slot, 0), 0);
            Check.due("a THING", does(x, FIGURE, slot, 0, slot), 0);
        }
        for (int slot = 0; slot < 12; slot++) {
            Check.due("THING", x.slot(slot, 0), 12 - slot);
            Check.due("NUMBER", x.slot(slot, 2), slot);
        }
        Check.due("no SLOT -1", x.act(FIGURE, -1, 0, 0, 0), BAD);
        Check.due("no SLOT 12", x.act(FIGURE, 12, 0, 0, 0), BAD);
        Check.due("NOTHING comes", does(x, MAKE, 5, 6, 1) + does(x, TAKE, 11, 5, 6, 0), 0);
        Check.due("NOTHING", x.slot(11, 0) + x.slot(11, 1) + x.slot(11, 2), 0);
    }

    private static void registers() {
        Check.by("REGISTERS 0 .. 7 are longs (0 at first).");
        ThrowReports x = new ThrowReports();
        for (int r = 7; r >= 0; r--) {
            Check.due("at first", x.register(r), 0);
            does(x, NUMBER, r, 10 + r, 0);
        }
        for (int r = 0; r < 8; r++) {
            Check.due("REGISTER " + r, x.register(r), 10 + r);
        }
        Check.due("no REGISTER -1", x.act(NUMBER, -1, 0, 0, 0), BAD);
        Check.due("no REGISTER 8", x.act(NUMBER, 8, 0, 0, 0), BAD);
        for (long value : new long[] {Long.MIN_VALUE, Long.MAX_VALUE, 1L << 32, -(1L << 32) - 1, 1L << 31, 0x123456789ABCDEF0L}) {
            put(x, 3, value);
        }
        does(x, NUMBER, 3, 0, 0);
        Check.due("0 again", x.register(3), 0);
    }
}

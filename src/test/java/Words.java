/** The document's words for its numbers, and short ways to have single acts done. */
abstract class Words {
    static final int BAD = ThrowReports.BAD, FULL = ThrowReports.FULL;
    static final int MIN = Integer.MIN_VALUE, MAX = Integer.MAX_VALUE;

    static final int NOTHING = 1, UNLIKE = 2, PLACE = 3, SIZE = 4, STORE = 5, ZERO = 6, OWN = 7, ROOM = 8;

    static final int MAKE = 0, DEEP = 1, THIN = 2, FIGURE = 3, MOVE = 4, GET = 5, SET = 6, TAKE = 7, LAY = 8;
    static final int LENGTH = 9, CLONE = 10, TELLS = 11, COPY = 12, NUMBER = 13, ADD = 14, DIVIDE = 15;
    static final int REST = 16, FAIL = 17;

    /** START with every KIND, and NOTHING. */
    static final int ALL = 1023;

    /** Makes an ACT, runs it and forgets all NODES; SLOTS and THINGS stay. */
    static int does(ThrowReports x, int op, int a, int b, int c, int d) {
        int node = x.act(op, a, b, c, d);
        int failure = x.run(node);
        x.forget();
        return failure;
    }

    static int does(ThrowReports x, int op, int a, int b, int c) {
        return does(x, op, a, b, c, 0);
    }

    /** SLOT 0 NOTHING, SLOT k a THING of KIND k and number k: rows of 3 items, NUMBERS 5. */
    static ThrowReports oneOfEach() {
        ThrowReports x = new ThrowReports();
        for (int kind = 1; kind <= 9; kind++) {
            makeOne(x, kind, kind, 3);
        }
        return x;
    }

    /** As oneOfEach(), but neither SLOTS 10 and 11, REGISTERS nor the items of rows are as at first. */
    static ThrowReports oneOfEachFilled() {
        ThrowReports x = oneOfEach();
        x.act(NUMBER, 0, 70, 0, 0);
        for (int kind = 1; kind <= 4; kind++) {
            x.both(x.count(2) - 1, x.act(SET, kind, kind, 1, 0));
        }
        x.run(x.count(2) - 1);
        x.forget();
        does(x, LAY, 5, 5, 1, 1);
        does(x, LAY, 6, 6, 1, 8);
        does(x, LAY, 7, 7, 1, 9);
        does(x, FIGURE, 10, 0, 6);
        does(x, FIGURE, 11, 1, 7);
        for (int r = 1; r < 8; r++) {
            does(x, NUMBER, r, 70 + r, 0);
        }
        return x;
    }

    /** SLOT becomes a row of a KIND with some items, or a FIGURE or ROUND with NUMBER 5. */
    static int makeOne(ThrowReports x, int slot, int kind, int length) {
        if (kind >= 8) {
            return does(x, FIGURE, slot, kind - 8, 5);
        }
        return kind == 5 ? does(x, THIN, slot, length, 0) : does(x, MAKE, slot, kind, length);
    }

    static boolean is(int kind, int other) {
        return kind == other || kind == 9 && other == 8 || kind == 7 && other == 6;
    }

    static int set(int... kinds) {
        int set = 0;
        for (int kind : kinds) {
            set |= 1 << kind;
        }
        return set;
    }

    /** The KINDS that ARE a KIND, as a set. */
    static int thoseThatAre(int kind) {
        int set = 0;
        for (int k = 0; k <= 9; k++) {
            set |= is(k, kind) ? 1 << k : 0;
        }
        return set;
    }

    /** A REGISTER but 6 becomes any long; REGISTER 6 is used for that, and all NODES are forgotten. */
    static void put(ThrowReports x, int register, long value) {
        int low = (int) value;
        int doubling = x.act(ADD, register, register, register, 0);
        for (int i = 0; i < 5; i++) {
            doubling = x.both(doubling, doubling);
        }
        int high = x.both(x.act(NUMBER, register, (int) ((value - low) >> 32), 0, 0), doubling);
        int rest = x.both(x.act(NUMBER, 6, low, 0, 0), x.act(ADD, register, register, 6, 0));
        Check.due("a long in REGISTER " + register, x.run(x.both(high, rest)), 0);
        Check.due("a long in REGISTER " + register, x.register(register), value);
        x.forget();
    }

    static void hasItems(String what, ThrowReports x, int slot, long... want) {
        for (int i = 0; i < want.length; i++) {
            Check.due(what + ", item " + i, x.item(slot, i), want[i]);
        }
    }
}

import java.util.Arrays;

/**
 * A small machine of rows and figures whose acts fail as Java's do, programs of such acts, and
 * reports of what may fail in them. The words in capitals are those of the document.
 */
public final class ThrowReports {
    public static final int BAD = -1, FULL = -2;

    private static final int SLOTS = 12, REGISTERS = 8;
    private static final int MOST_THINGS = 200, MOST_ITEMS = 3000, MOST_NODES = 80, MOST_COST = 100;

    // FAILURES; 0 stands for none of them.
    private static final int NOTHING = 1, UNLIKE = 2, PLACE = 3, SIZE = 4, STORE = 5, ZERO = 6, OWN = 7, ROOM = 8;
    private static final int FAILURES = 8, FAILURE_BITS = 0x1FE;

    private static final int MAKE = 0, DEEP = 1, THIN = 2, FIGURE = 3, MOVE = 4, GET = 5, SET = 6, TAKE = 7, LAY = 8;
    private static final int LENGTH = 9, CLONE = 10, TELLS = 11, COPY = 12, NUMBER = 13, ADD = 14, DIVIDE = 15;
    private static final int REST = 16, FAIL = 17;

    private final Machine machine = new Machine();
    private final Node[] nodes = new Node[MOST_NODES];
    private final State start = new State();
    private int nodesMade;

    public ThrowReports() {
        for (int slot = 0; slot < SLOTS; slot++) {
            start.put(slot, Kinds.JUST_NOTHING);
        }
    }

    public int act(int op, int a, int b, int c, int d) {
        if (!Act.isAsTold(op, a, b, c, d)) {
            return BAD;
        }
        return isFull(1) ? FULL : added(new Act(nodesMade, op, a, b, c, d));
    }

    public int both(int first, int second) {
        if (!isNode(first) || !isNode(second)) {
            return BAD;
        }
        int cost = 1 + costOf(first) + costOf(second);
        return isFull(cost) ? FULL : added(new Both(nodesMade, cost, nodes[first], nodes[second]));
    }

    public int choice(int slot, int kind, int one, int other) {
        if (!isSlot(slot) || kind < 0 || kind > Kinds.LATEST || !isNode(one) || !isNode(other)) {
            return BAD;
        }
        int cost = 1 + costOf(one) + costOf(other);
        return isFull(cost) ? FULL : added(new Choice(nodesMade, cost, slot, kind, nodes[one], nodes[other]));
    }

    public int guard(int body, int set, int handler, int last) {
        if (!isNode(body) || !isNodeOrNone(handler) || !isNodeOrNone(last)) {
            return BAD;
        }
        int cost = 1 + costOf(body) + costOf(handler) + 9 * costOf(last);
        if (isFull(cost)) {
            return FULL;
        }
        return added(new Guard(nodesMade, cost, nodes[body], set & FAILURE_BITS, nodeOrNull(handler), nodeOrNull(last)));
    }

    public int forget() {
        int before = nodesMade;
        for (int node = 0; node < MOST_NODES; node++) {
            nodes[node] = null;
        }
        nodesMade = 0;
        return before;
    }

    public int run(int node) {
        if (!isNode(node)) {
            return BAD;
        }
        machine.beginRun();
        return nodes[node].done(machine);
    }

    public int ran(int what) {
        switch (what) {
            case 0: return machine.begun;
            case 1: return machine.failed;
            case 2: return machine.came;
            case 3: return machine.lastParts;
            case 4: return machine.lost;
            case 5: return machine.latestFailed;
            default: return BAD;
        }
    }

    public int clear() {
        return machine.empty();
    }

    public int count(int what) {
        switch (what) {
            case 0: return machine.things.made;
            case 1: return machine.things.itemsUsed;
            case 2: return nodesMade;
            case 3: return costOf(nodesMade - 1);
            default: return BAD;
        }
    }

    public int slot(int slot, int what) {
        if (!isSlot(slot)) {
            return BAD;
        }
        int thing = machine.slots[slot];
        switch (what) {
            case 0: return thing;
            case 1: return machine.things.kindOf(thing);
            case 2: return machine.things.sizeOf(thing);
            default: return BAD;
        }
    }

    public long item(int slot, int i) {
        return isSlot(slot) ? machine.things.read(machine.slots[slot], i) : 0;
    }

    public long register(int r) {
        return r >= 0 && r < REGISTERS ? machine.registers[r] : 0;
    }

    public int alike(int slot, int other) {
        if (!isSlot(slot) || !isSlot(other)) {
            return BAD;
        }
        int one = machine.slots[slot];
        int two = machine.slots[other];
        if (one == two) {
            return 1;
        }
        return machine.things.match(one, two) ? 2 : 0;
    }

    public int given(int slot, int set) {
        if (!isSlot(slot) || set <= 0 || set > Kinds.ALL) {
            return BAD;
        }
        int before = start.of(slot);
        start.put(slot, set);
        return before;
    }

    public int report(int node) {
        if (!isNode(node)) {
            return BAD;
        }
        for (int i = 0; i < nodesMade; i++) {
            nodes[i].forgetReport();
        }
        nodes[node].goThrough(start);
        return nodes[node].mayDo;
    }

    public int reached(int node) {
        if (!isNode(node)) {
            return BAD;
        }
        return nodes[node].isReached() ? 1 : 0;
    }

    public int may(int node) {
        return isNode(node) ? nodes[node].mayDo : BAD;
    }

    public int ahead(int node, int slot) {
        return isNode(node) && isSlot(slot) ? nodes[node].before.of(slot) : BAD;
    }

    public int guarded(int node, int what) {
        if (!isNode(node) || what < 0 || what > 1) {
            return BAD;
        }
        if (nodes[node] instanceof Guard guard) {
            return what == 0 ? guard.vainFailures() : guard.lostFailures;
        }
        return BAD;
    }

    private static boolean isSlot(int slot) {
        return slot >= 0 && slot < SLOTS;
    }

    private boolean isNode(int node) {
        return node >= 0 && node < nodesMade;
    }

    private boolean isNodeOrNone(int node) {
        return node == -1 || isNode(node);
    }

    private Node nodeOrNull(int node) {
        return isNode(node) ? nodes[node] : null;
    }

    private int costOf(int node) {
        return isNode(node) ? nodes[node].cost : 0;
    }

    private boolean isFull(int cost) {
        return nodesMade >= MOST_NODES || cost > MOST_COST;
    }

    private int added(Node node) {
        nodes[nodesMade] = node;
        nodesMade++;
        return nodesMade - 1;
    }

    /** The KINDS, and sets of them: bit k stands for KIND k, bit 0 for NOTHING. */
    private static final class Kinds {
        static final int INTS = 1, BYTES = 2, DOUBLES = 4, DEEP_ROW = 5, FIGURES = 6, ROUNDS = 7, FIGURE = 8, ROUND = 9;
        static final int LATEST = 9, LATEST_ROW = 7;
        static final int JUST_NOTHING = 1, ALL = 1023;
        static final int NUMBER_ROWS = 30, FIGURE_ROWS = 192, THING_ROWS = 224, ROWS = 254;

        // By KIND k: the KINDS that ARE k; those that MEET k; those of a row to which a COPY of
        // items of a row of KIND k can't fail by STORE; the KIND that the items of a row are.
        private static final int[] ARE = {1, 2, 4, 8, 16, 32, 192, 128, 768, 512};
        private static final int[] MEET = {0, 2, 4, 8, 16, 224, 224, 224, 0, 0};
        private static final int[] TAKE_ALL = {0, 2, 4, 8, 16, 32, 64, 192, 0, 0};
        private static final int[] ITEMS = {0, 0, 0, 0, 0, INTS, FIGURE, ROUND, 0, 0};

        static int setOf(int kind) {
            return 1 << kind;
        }

        static boolean has(int set, int kind) {
            return (set >> kind & 1) != 0;
        }

        static int thoseThatAre(int kind) {
            return kind >= 0 && kind < ARE.length ? ARE[kind] : 0;
        }

        static int thoseThatMeet(int kind) {
            return kind >= 0 && kind < MEET.length ? MEET[kind] : 0;
        }

        static int thoseThatTakeAllOf(int kind) {
            return kind >= 0 && kind < TAKE_ALL.length ? TAKE_ALL[kind] : 0;
        }

        static int ofItems(int rowKind) {
            return rowKind >= 0 && rowKind < ITEMS.length ? ITEMS[rowKind] : 0;
        }

        static boolean isRow(int kind) {
            return kind > 0 && kind <= LATEST_ROW;
        }

        /** Those of a set that MEET one of another set. */
        static int meeting(int set, int others) {
            int met = 0;
            for (int kind = 0; kind <= LATEST; kind++) {
                if (has(set, kind) && (thoseThatMeet(kind) & others) != 0) {
                    met |= setOf(kind);
                }
            }
            return met;
        }

        static boolean copyMayFailByStore(int from, int to) {
            for (int kind = 0; kind <= LATEST; kind++) {
                if (has(from, kind) && (to & ~thoseThatTakeAllOf(kind)) != 0) {
                    return true;
                }
            }
            return false;
        }
    }

    /** All THINGS by their numbers; the items of all rows stand one behind the other in one array. */
    private static final class Things {
        private static final long NO_NUMBER = 0x7FF8000000000000L, INFINITE = 0x7FF0000000000000L;
        private static final long ALL_BUT_SIGN = 0x7FFFFFFFFFFFFFFFL;

        // Place 0 is never written, so that NOTHING has KIND 0 and size 0.
        private final int[] kinds = new int[MOST_THINGS + 1];
        private final int[] starts = new int[MOST_THINGS + 1];
        private final int[] sizes = new int[MOST_THINGS + 1];
        private final long[] items = new long[MOST_ITEMS];
        private int made;
        private int itemsUsed;

        boolean haveRoom(long moreThings, long moreItems) {
            return made + moreThings <= MOST_THINGS && itemsUsed + moreItems <= MOST_ITEMS;
        }

        /** A row more, or NOTHING if there is no room for it. */
        int addRow(int kind, int length) {
            if (length < 0 || !haveRoom(1, length)) {
                return 0;
            }
            made++;
            kinds[made] = kind;
            starts[made] = itemsUsed;
            sizes[made] = length;
            Arrays.fill(items, itemsUsed, itemsUsed + length, 0L);
            itemsUsed += length;
            return made;
        }

        int addFigure(int kind, int number) {
            if (!haveRoom(1, 0)) {
                return 0;
            }
            made++;
            kinds[made] = kind;
            starts[made] = 0;
            sizes[made] = number;
            return made;
        }

        int removeAll() {
            int before = made;
            made = 0;
            itemsUsed = 0;
            return before;
        }

        int kindOf(int thing) {
            return thing > 0 && thing <= made ? kinds[thing] : 0;
        }

        /** The length of a row, the NUMBER of a FIGURE. */
        int sizeOf(int thing) {
            return thing > 0 && thing <= made ? sizes[thing] : 0;
        }

        boolean hasItem(int thing, int i) {
            return Kinds.isRow(kindOf(thing)) && i >= 0 && i < sizes[thing];
        }

        long read(int row, int i) {
            return hasItem(row, i) ? items[starts[row] + i] : 0;
        }

        void write(int row, int i, long value) {
            if (hasItem(row, i)) {
                items[starts[row] + i] = asItem(kinds[row], value);
            }
        }

        private static long asItem(int rowKind, long value) {
            switch (rowKind) {
                case Kinds.INTS: return (int) value;
                case Kinds.BYTES: return (byte) value;
                case Kinds.DOUBLES: return (value & ALL_BUT_SIGN) > INFINITE ? NO_NUMBER : value;
                default: return value;
            }
        }

        boolean hasPart(int row, int from, int length) {
            return Kinds.isRow(kindOf(row)) && from >= 0 && length >= 0 && (long) from + length <= sizes[row];
        }

        /** How many of the items came before one that the other row can't hold. */
        int bring(int from, int at, int to, int place, int length) {
            if (!hasPart(from, at, length) || !hasPart(to, place, length)) {
                return 0;
            }
            if (kinds[from] != kinds[to]) {
                return bringOneByOne(from, at, to, place, length);
            }
            System.arraycopy(items, starts[from] + at, items, starts[to] + place, length);
            return length;
        }

        private int bringOneByOne(int from, int at, int to, int place, int length) {
            int fitting = Kinds.thoseThatAre(Kinds.ofItems(kinds[to])) | Kinds.JUST_NOTHING;
            int source = starts[from] + at;
            int target = starts[to] + place;
            for (int i = 0; i < length; i++) {
                int thing = (int) items[source + i];
                if (!Kinds.has(fitting, kindOf(thing))) {
                    return i;
                }
                items[target + i] = thing;
            }
            return length;
        }

        boolean match(int one, int other) {
            int kind = kindOf(one);
            if (kind != kindOf(other) || sizeOf(one) != sizeOf(other)) {
                return false;
            }
            if (!Kinds.isRow(kind)) {
                return true;
            }
            return kind == Kinds.DEEP_ROW ? rowsMatch(one, other) : numbersMatch(one, other);
        }

        /** Of rows of THINGS these numbers are those of the THINGS, which are to be the same. */
        private boolean numbersMatch(int one, int other) {
            int length = sizeOf(one);
            if (length != sizeOf(other)) {
                return false;
            }
            for (int i = 0; i < length; i++) {
                if (read(one, i) != read(other, i)) {
                    return false;
                }
            }
            return true;
        }

        private boolean rowsMatch(int one, int other) {
            int length = sizeOf(one);
            for (int i = 0; i < length; i++) {
                int row = (int) read(one, i);
                int otherRow = (int) read(other, i);
                boolean oneIsMissing = row == 0 || otherRow == 0;
                if (row != otherRow && (oneIsMissing || !numbersMatch(row, otherRow))) {
                    return false;
                }
            }
            return true;
        }
    }

    /** What acts work on, and what the latest run did. An act answers its FAILURE, or 0. */
    private static final class Machine {
        final Things things = new Things();
        final int[] slots = new int[SLOTS];
        final long[] registers = new long[REGISTERS];
        int begun;
        int failed;
        int came;
        int lastParts;
        int lost;
        int latestFailed = -1;

        void beginRun() {
            begun = 0;
            failed = 0;
            came = 0;
            lastParts = 0;
            lost = 0;
            latestFailed = -1;
        }

        int empty() {
            Arrays.fill(slots, 0);
            Arrays.fill(registers, 0L);
            return things.removeAll();
        }

        boolean holds(int slot, int kind) {
            return Kinds.has(Kinds.thoseThatAre(kind), things.kindOf(slots[slot]));
        }

        /** Its numbers have been looked at by Act.isAsTold: SLOTS, REGISTERS and KINDS are such. */
        int perform(int op, int a, int b, int c, int d) {
            switch (op) {
                case MAKE: return make(a, b, c);
                case DEEP: return makeDeep(a, b, c);
                case THIN: return make(a, Kinds.DEEP_ROW, b);
                case FIGURE: return makeFigure(a, b == 0 ? Kinds.FIGURE : Kinds.ROUND, c);
                case MOVE: return move(a, b, c);
                case GET: return get(a, b, c, d);
                case SET: return set(a, b, c, d);
                case TAKE: return take(a, b, c, d);
                case LAY: return lay(a, b, c, d);
                case LENGTH: return length(a, b, c);
                case CLONE: return cloneRow(a, b);
                case TELLS: return tell(a, b);
                case COPY: return copy(a, b, c, d);
                case NUMBER:
                    registers[a] = b;
                    return 0;
                case ADD:
                    registers[a] = registers[b] + registers[c];
                    return 0;
                case DIVIDE: return divide(a, b, c);
                case REST: return rest(a, b, c);
                default: return OWN;
            }
        }

        private int kindIn(int slot) {
            return things.kindOf(slots[slot]);
        }

        private int unlessAs(int slot, int kind) {
            return slots[slot] == 0 || holds(slot, kind) ? 0 : UNLIKE;
        }

        private int unlessSomething(int slot, int kind) {
            if (slots[slot] == 0) {
                return NOTHING;
            }
            return holds(slot, kind) ? 0 : UNLIKE;
        }

        private int unlessItem(int slot, int kind, int i) {
            if (slots[slot] == 0) {
                return NOTHING;
            }
            if (!holds(slot, kind)) {
                return UNLIKE;
            }
            return things.hasItem(slots[slot], i) ? 0 : PLACE;
        }

        private int make(int slot, int kind, int length) {
            if (length < 0) {
                return SIZE;
            }
            if (!things.haveRoom(1, length)) {
                return ROOM;
            }
            slots[slot] = things.addRow(kind, length);
            return 0;
        }

        private int makeDeep(int slot, int rows, int length) {
            if (rows < 0 || length < 0) {
                return SIZE;
            }
            if (!things.haveRoom(1L + rows, rows + (long) rows * length)) {
                return ROOM;
            }
            int deep = things.addRow(Kinds.DEEP_ROW, rows);
            for (int i = 0; i < rows; i++) {
                things.write(deep, i, things.addRow(Kinds.INTS, length));
            }
            slots[slot] = deep;
            return 0;
        }

        private int makeFigure(int slot, int kind, int number) {
            if (!things.haveRoom(1, 0)) {
                return ROOM;
            }
            slots[slot] = things.addFigure(kind, number);
            return 0;
        }

        private int move(int slot, int from, int kind) {
            int failure = kind == 0 ? 0 : unlessAs(from, kind);
            if (failure == 0) {
                slots[slot] = slots[from];
            }
            return failure;
        }

        private int get(int register, int slot, int kind, int i) {
            int failure = unlessItem(slot, kind, i);
            if (failure == 0) {
                registers[register] = things.read(slots[slot], i);
            }
            return failure;
        }

        private int set(int slot, int kind, int i, int register) {
            int failure = unlessItem(slot, kind, i);
            if (failure == 0) {
                things.write(slots[slot], i, registers[register]);
            }
            return failure;
        }

        private int take(int slot, int from, int kind, int i) {
            int failure = unlessItem(from, kind, i);
            if (failure == 0) {
                slots[slot] = (int) things.read(slots[from], i);
            }
            return failure;
        }

        private int lay(int slot, int kind, int i, int from) {
            int failure = unlessAs(slot, kind);
            if (failure == 0) {
                failure = unlessAs(from, Kinds.ofItems(kind));
            }
            if (failure == 0) {
                failure = unlessItem(slot, kind, i);
            }
            if (failure == 0 && kindIn(slot) == Kinds.ROUNDS && kindIn(from) == Kinds.FIGURE) {
                failure = STORE;
            }
            if (failure == 0) {
                things.write(slots[slot], i, slots[from]);
            }
            return failure;
        }

        private int length(int register, int slot, int kind) {
            int failure = unlessSomething(slot, kind);
            if (failure == 0) {
                registers[register] = things.sizeOf(slots[slot]);
            }
            return failure;
        }

        private int cloneRow(int slot, int from) {
            int failure = unlessSomething(from, Kinds.INTS);
            if (failure != 0) {
                return failure;
            }
            int row = slots[from];
            int length = things.sizeOf(row);
            failure = make(slot, Kinds.INTS, length);
            if (failure == 0) {
                things.bring(row, 0, slots[slot], 0, length);
            }
            return failure;
        }

        private int tell(int register, int slot) {
            int failure = unlessSomething(slot, Kinds.FIGURE);
            if (failure == 0) {
                int number = things.sizeOf(slots[slot]);
                registers[register] = holds(slot, Kinds.ROUND) ? 2 * number + 1 : number;
            }
            return failure;
        }

        private int copy(int slot, int at, int other, int place) {
            int from = slots[slot];
            int to = slots[other];
            int length = (int) registers[7];
            if (from == 0 || to == 0) {
                return NOTHING;
            }
            if (!Kinds.has(Kinds.thoseThatMeet(kindIn(slot)), kindIn(other))) {
                return STORE;
            }
            if (!things.hasPart(from, at, length) || !things.hasPart(to, place, length)) {
                return PLACE;
            }
            int brought = things.bring(from, at, to, place, length);
            came += brought;
            return brought == length ? 0 : STORE;
        }

        private int divide(int register, int dividend, int divisor) {
            if (registers[divisor] == 0) {
                return ZERO;
            }
            registers[register] = registers[dividend] / registers[divisor];
            return 0;
        }

        private int rest(int register, int dividend, int divisor) {
            if (registers[divisor] == 0) {
                return ZERO;
            }
            registers[register] = registers[dividend] % registers[divisor];
            return 0;
        }
    }

    /**
     * Of each SLOT the set of KINDS that it may hold. A STATE has no empty set, so all sets empty
     * stand for no STATE at all, and putting STATES together needs no case of its own for that.
     */
    private static final class State {
        private final int[] sets = new int[SLOTS];

        boolean isThere() {
            return sets[0] != 0;
        }

        int of(int slot) {
            return sets[slot];
        }

        boolean has(int slot, int kind) {
            return Kinds.has(sets[slot], kind);
        }

        void put(int slot, int set) {
            sets[slot] = set;
        }

        void keep(int slot, int set) {
            sets[slot] &= set;
            if (sets[slot] == 0) {
                Arrays.fill(sets, 0);
            }
        }

        void erase() {
            Arrays.fill(sets, 0);
        }

        void become(State other) {
            System.arraycopy(other.sets, 0, sets, 0, SLOTS);
        }

        void join(State other) {
            for (int slot = 0; slot < SLOTS; slot++) {
                sets[slot] |= other.sets[slot];
            }
        }

        /** Joins a STATE as it is with another set for one SLOT. */
        void joinWith(State other, int changed, int set) {
            for (int slot = 0; slot < SLOTS; slot++) {
                sets[slot] |= slot == changed ? set : other.sets[slot];
            }
        }
    }

    /** The ways out of a NODE, each with its STATE: 0 the END, 1 to 8 the FAILURES. */
    private static final class Ways {
        static final int END = 0;

        private final State[] states = new State[FAILURES + 1];

        Ways() {
            for (int way = END; way <= FAILURES; way++) {
                states[way] = new State();
            }
        }

        State by(int way) {
            return states[way];
        }

        // A NODE has few of the ways: to look first keeps a REPORT cheap.
        void erase() {
            for (int way = END; way <= FAILURES; way++) {
                if (states[way].isThere()) {
                    states[way].erase();
                }
            }
        }

        void join(Ways other) {
            states[END].join(other.states[END]);
            joinFailures(other);
        }

        void joinFailures(Ways other) {
            for (int way = END + 1; way <= FAILURES; way++) {
                if (other.states[way].isThere()) {
                    states[way].join(other.states[way]);
                }
            }
        }

        int bits() {
            int bits = 0;
            for (int way = END; way <= FAILURES; way++) {
                if (states[way].isThere()) {
                    bits |= 1 << way;
                }
            }
            return bits;
        }
    }

    /**
     * A NODE has only NODES made before it as parts, so none stands open twice at once: each can
     * own the STATES it works with, and no more than 80 levels of NODES are ever open. A part that
     * is used twice overwrites its ways, so they are read before another part is gone through.
     */
    private abstract static class Node {
        final int number;
        final int cost;
        final State before = new State();
        final Ways ways = new Ways();
        int mayDo;

        Node(int number, int cost) {
            this.number = number;
            this.cost = cost;
        }

        abstract int done(Machine machine);

        /** Fills the ways, which are empty ahead of it; leaves the STATE that it is given. */
        abstract void findWays(State from);

        final void goThrough(State from) {
            before.join(from);
            ways.erase();
            findWays(from);
            mayDo |= ways.bits();
        }

        final boolean isReached() {
            return before.isThere();
        }

        void forgetReport() {
            before.erase();
            mayDo = 0;
        }
    }

    private static final class Act extends Node {
        // What a number may be, as a set: bit v stands for v.
        private static final int ANY = -1, A_SLOT = 0xFFF, A_REGISTER = 0xFF;
        private static final int[] FORMS = {
            A_SLOT, Kinds.NUMBER_ROWS | Kinds.FIGURE_ROWS, ANY, ANY, // MAKE
            A_SLOT, ANY, ANY, ANY, // DEEP
            A_SLOT, ANY, ANY, ANY, // THIN
            A_SLOT, ANY, ANY, ANY, // FIGURE
            A_SLOT, A_SLOT, Kinds.ALL, ANY, // MOVE
            A_REGISTER, A_SLOT, Kinds.NUMBER_ROWS, ANY, // GET
            A_SLOT, Kinds.NUMBER_ROWS, ANY, A_REGISTER, // SET
            A_SLOT, A_SLOT, Kinds.THING_ROWS, ANY, // TAKE
            A_SLOT, Kinds.THING_ROWS, ANY, A_SLOT, // LAY
            A_REGISTER, A_SLOT, Kinds.ROWS, ANY, // LENGTH
            A_SLOT, A_SLOT, ANY, ANY, // CLONE
            A_REGISTER, A_SLOT, ANY, ANY, // TELLS
            A_SLOT, ANY, A_SLOT, ANY, // COPY
            A_REGISTER, ANY, ANY, ANY, // NUMBER
            A_REGISTER, A_REGISTER, A_REGISTER, ANY, // ADD
            A_REGISTER, A_REGISTER, A_REGISTER, ANY, // DIVIDE
            A_REGISTER, A_REGISTER, A_REGISTER, ANY, // REST
            ANY, ANY, ANY, ANY, // FAIL
        };

        private final int op;
        private final int a;
        private final int b;
        private final int c;
        private final int d;
        private final State left = new State();

        Act(int number, int op, int a, int b, int c, int d) {
            super(number, 1);
            this.op = op;
            this.a = a;
            this.b = b;
            this.c = c;
            this.d = d;
        }

        static boolean isAsTold(int op, int a, int b, int c, int d) {
            return op >= MAKE && op <= FAIL
                    && fits(FORMS[4 * op], a) && fits(FORMS[4 * op + 1], b)
                    && fits(FORMS[4 * op + 2], c) && fits(FORMS[4 * op + 3], d);
        }

        private static boolean fits(int form, int value) {
            return form == ANY || value >= 0 && value < SLOTS && (form >> value & 1) != 0;
        }

        int done(Machine machine) {
            machine.begun++;
            int failure = machine.perform(op, a, b, c, d);
            if (failure != 0) {
                machine.failed++;
                machine.latestFailed = number;
            }
            return failure;
        }

        /** Where no STATE is left, the questions behind it add nothing: all sets are empty then. */
        void findWays(State from) {
            left.become(from);
            switch (op) {
                case MAKE: askNew(c < 0, Kinds.setOf(b)); break;
                case DEEP: askNew(b < 0 || c < 0, Kinds.setOf(Kinds.DEEP_ROW)); break;
                case THIN: askNew(b < 0, Kinds.setOf(Kinds.DEEP_ROW)); break;
                case FIGURE: askNew(false, Kinds.setOf(b == 0 ? Kinds.FIGURE : Kinds.ROUND)); break;
                case MOVE: askMove(); break;
                case GET:
                    askSomething(b, c);
                    mayFail(PLACE);
                    break;
                case SET:
                    askSomething(a, b);
                    mayFail(PLACE);
                    break;
                case TAKE: askTake(); break;
                case LAY: askLay(); break;
                case LENGTH: askSomething(b, c); break;
                case CLONE:
                    askSomething(b, Kinds.INTS);
                    askNew(false, Kinds.setOf(Kinds.INTS));
                    break;
                case TELLS: askSomething(b, Kinds.FIGURE); break;
                case COPY: askCopy(); break;
                case DIVIDE: mayFail(ZERO); break;
                case REST: mayFail(ZERO); break;
                case FAIL: mustFail(OWN); break;
                default: break;
            }
            ways.by(Ways.END).join(left);
        }

        private void mayFail(int failure) {
            ways.by(failure).join(left);
        }

        private void mustFail(int failure) {
            mayFail(failure);
            left.erase();
        }

        /** Fails where the SLOT holds one of these KINDS, and goes on where it holds another one. */
        private void failFor(int failure, int slot, int kinds) {
            int failing = left.of(slot) & kinds;
            if (failing != 0) {
                ways.by(failure).joinWith(left, slot, failing);
                left.keep(slot, ~failing);
            }
        }

        private void makeAnew(int set) {
            if (left.isThere()) {
                left.put(a, set);
            }
        }

        private void askAs(int slot, int kind) {
            failFor(UNLIKE, slot, ~(Kinds.thoseThatAre(kind) | Kinds.JUST_NOTHING));
        }

        private void askSomething(int slot, int kind) {
            failFor(UNLIKE, slot, ~(Kinds.thoseThatAre(kind) | Kinds.JUST_NOTHING));
            failFor(NOTHING, slot, Kinds.JUST_NOTHING);
        }

        private void askNew(boolean wrongSize, int set) {
            if (wrongSize) {
                mustFail(SIZE);
            }
            mayFail(ROOM);
            makeAnew(set);
        }

        private void askMove() {
            if (c != 0) {
                askAs(b, c);
            }
            makeAnew(left.of(b));
        }

        private void askTake() {
            askSomething(b, c);
            mayFail(PLACE);
            int set = Kinds.JUST_NOTHING;
            if (c == Kinds.DEEP_ROW) {
                set |= Kinds.setOf(Kinds.INTS);
            } else {
                set |= Kinds.setOf(Kinds.ROUND);
                if (left.has(b, Kinds.FIGURES)) {
                    set |= Kinds.setOf(Kinds.FIGURE);
                }
            }
            makeAnew(set);
        }

        private void askLay() {
            askAs(a, b);
            askAs(d, Kinds.ofItems(b));
            failFor(NOTHING, a, Kinds.JUST_NOTHING);
            mayFail(PLACE);
            if (left.has(a, Kinds.ROUNDS) && left.has(d, Kinds.FIGURE)) {
                mayFail(STORE);
                keepWhatLays();
            }
        }

        private void keepWhatLays() {
            int rounds = Kinds.setOf(Kinds.ROUNDS);
            int figure = Kinds.setOf(Kinds.FIGURE);
            boolean justRounds = left.of(a) == rounds;
            boolean justFigure = left.of(d) == figure;
            if (justFigure) {
                left.keep(a, ~rounds);
            }
            if (justRounds) {
                left.keep(d, ~figure);
            }
        }

        private void askCopy() {
            if (left.has(a, 0) || left.has(c, 0)) {
                mayFail(NOTHING);
                left.keep(a, ~Kinds.JUST_NOTHING);
                left.keep(c, ~Kinds.JUST_NOTHING);
            }
            int from = left.of(a);
            int to = left.of(c);
            if (Kinds.copyMayFailByStore(from, to)) {
                mayFail(STORE);
            }
            left.keep(a, Kinds.meeting(from, to));
            left.keep(c, Kinds.meeting(to, from));
            mayFail(PLACE);
        }
    }

    private static final class Both extends Node {
        private final Node first;
        private final Node second;
        private final State between = new State();

        Both(int number, int cost, Node first, Node second) {
            super(number, cost);
            this.first = first;
            this.second = second;
        }

        int done(Machine machine) {
            int failure = first.done(machine);
            return failure == 0 ? second.done(machine) : failure;
        }

        void findWays(State from) {
            first.goThrough(from);
            ways.joinFailures(first.ways);
            between.become(first.ways.by(Ways.END));
            if (between.isThere()) {
                second.goThrough(between);
                ways.join(second.ways);
            }
        }
    }

    private static final class Choice extends Node {
        private final int slot;
        private final int kind;
        private final Node one;
        private final Node other;
        private final State chosen = new State();

        Choice(int number, int cost, int slot, int kind, Node one, Node other) {
            super(number, cost);
            this.slot = slot;
            this.kind = kind;
            this.one = one;
            this.other = other;
        }

        int done(Machine machine) {
            return machine.holds(slot, kind) ? one.done(machine) : other.done(machine);
        }

        void findWays(State from) {
            choose(one, from, Kinds.thoseThatAre(kind));
            choose(other, from, ~Kinds.thoseThatAre(kind));
        }

        private void choose(Node node, State from, int kinds) {
            chosen.become(from);
            chosen.keep(slot, kinds);
            if (chosen.isThere()) {
                node.goThrough(chosen);
                ways.join(node.ways);
            }
        }
    }

    private static final class Guard extends Node {
        private final Node body;
        private final int set;
        private final Node handler;
        private final Node last;
        private final State taken = new State();
        private final Ways handled = new Ways();
        private int bodyMay;
        private int lostFailures;

        /** Without a handler or a last part these are null. */
        Guard(int number, int cost, Node body, int set, Node handler, Node last) {
            super(number, cost);
            this.body = body;
            this.set = set;
            this.handler = handler;
            this.last = last;
        }

        private boolean takes(int failure) {
            return (set >> failure & 1) != 0;
        }

        int done(Machine machine) {
            int failure = body.done(machine);
            if (failure != 0 && takes(failure)) {
                failure = handler == null ? 0 : handler.done(machine);
            }
            if (last == null) {
                return failure;
            }
            machine.lastParts++;
            int lastFailure = last.done(machine);
            if (lastFailure == 0) {
                return failure;
            }
            if (failure != 0) {
                machine.lost++;
            }
            return lastFailure;
        }

        void findWays(State from) {
            body.goThrough(from);
            bodyMay |= body.ways.bits();
            sortBodysWays();
            if (taken.isThere() && handler != null) {
                handler.goThrough(taken);
                handled.join(handler.ways);
            } else {
                handled.by(Ways.END).join(taken);
            }
            if (last == null) {
                ways.join(handled);
            } else {
                goOnThroughLast(last);
            }
        }

        private void sortBodysWays() {
            handled.erase();
            taken.erase();
            for (int way = Ways.END; way <= FAILURES; way++) {
                State state = takes(way) ? taken : handled.by(way);
                state.join(body.ways.by(way));
            }
        }

        private void goOnThroughLast(Node lastPart) {
            for (int way = Ways.END; way <= FAILURES; way++) {
                if (handled.by(way).isThere()) {
                    lastPart.goThrough(handled.by(way));
                    ways.by(way).join(lastPart.ways.by(Ways.END));
                    ways.joinFailures(lastPart.ways);
                    if ((lastPart.ways.bits() & FAILURE_BITS) != 0) {
                        lostFailures |= 1 << way & FAILURE_BITS;
                    }
                }
            }
        }

        int vainFailures() {
            return isReached() ? set & ~bodyMay : 0;
        }

        void forgetReport() {
            super.forgetReport();
            bodyMay = 0;
            lostFailures = 0;
        }
    }
}

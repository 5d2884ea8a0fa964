import java.util.ArrayList;
import java.util.Arrays;
import java.util.List;
import java.util.Map;
import java.util.TreeMap;
import java.util.TreeSet;

/**
 * The document once more, written another way: runs are done by Java itself on its own arrays and
 * objects, and what it throws is the FAILURE; reports are worked out with sets and maps made anew.
 */
final class Oracle {
    private static final int BAD = -1, FULL = -2;
    private static final int BOTH = 100, CHOICE = 101, GUARD = 102;

    private static class Figure {
        final int number;

        Figure(int number) {
            this.number = number;
        }

        int tells() {
            return number;
        }
    }

    private static final class Round extends Figure {
        Round(int number) {
            super(number);
        }

        @Override
        int tells() {
            return 2 * number + 1;
        }
    }

    private static final class NoRoom extends RuntimeException {
        private static final long serialVersionUID = 1;
    }

    private static final class Own extends RuntimeException {
        private static final long serialVersionUID = 1;
    }

    private final Object[] slots = new Object[12];
    private final long[] registers = new long[8];
    private final List<Object> things = new ArrayList<>();
    private int items = 0;
    private final List<int[]> nodes = new ArrayList<>();
    private final List<Integer> costs = new ArrayList<>();
    private final int[] ran = {0, 0, 0, 0, 0, -1};
    private final List<TreeSet<Integer>> start = new ArrayList<>();
    private final Map<Integer, List<TreeSet<Integer>>> aheads = new TreeMap<>();
    private final Map<Integer, Integer> mays = new TreeMap<>();
    private final Map<Integer, Integer> bodies = new TreeMap<>();
    private final Map<Integer, Integer> losts = new TreeMap<>();

    Oracle() {
        for (int i = 0; i < 12; i++) {
            start.add(new TreeSet<>(List.of(0)));
        }
    }

    // ---- making

    private static boolean in(int value, int least, int most) {
        return value >= least && value <= most;
    }

    private static boolean slotIs(int s) {
        return in(s, 0, 11);
    }

    private static boolean registerIs(int r) {
        return in(r, 0, 7);
    }

    private boolean nodeIs(int n) {
        return in(n, 0, nodes.size() - 1);
    }

    private static boolean wellFormed(int op, int a, int b, int c, int d) {
        switch (op) {
            case 0: return slotIs(a) && in(b, 1, 7) && b != 5;
            case 1: case 2: case 3: return slotIs(a);
            case 4: return slotIs(a) && slotIs(b) && in(c, 0, 9);
            case 5: return registerIs(a) && slotIs(b) && in(c, 1, 4);
            case 6: return slotIs(a) && in(b, 1, 4) && registerIs(d);
            case 7: return slotIs(a) && slotIs(b) && in(c, 5, 7);
            case 8: return slotIs(a) && in(b, 5, 7) && slotIs(d);
            case 9: return registerIs(a) && slotIs(b) && in(c, 1, 7);
            case 10: return slotIs(a) && slotIs(b);
            case 11: return registerIs(a) && slotIs(b);
            case 12: return slotIs(a) && slotIs(c);
            case 13: return registerIs(a);
            case 14: case 15: case 16: return registerIs(a) && registerIs(b) && registerIs(c);
            default: return op == 17;
        }
    }

    private int more(int cost, int... node) {
        if (nodes.size() == 80 || cost > 100) {
            return FULL;
        }
        nodes.add(node);
        costs.add(cost);
        return nodes.size() - 1;
    }

    int act(int op, int a, int b, int c, int d) {
        return wellFormed(op, a, b, c, d) ? more(1, op, a, b, c, d) : BAD;
    }

    int both(int first, int second) {
        return nodeIs(first) && nodeIs(second) ? more(1 + costs.get(first) + costs.get(second), BOTH, first, second) : BAD;
    }

    int choice(int slot, int kind, int one, int other) {
        if (!slotIs(slot) || !in(kind, 0, 9) || !nodeIs(one) || !nodeIs(other)) {
            return BAD;
        }
        return more(1 + costs.get(one) + costs.get(other), CHOICE, slot, kind, one, other);
    }

    int guard(int body, int set, int handler, int last) {
        if (!nodeIs(body) || handler != -1 && !nodeIs(handler) || last != -1 && !nodeIs(last)) {
            return BAD;
        }
        int cost = 1 + costs.get(body) + (handler == -1 ? 0 : costs.get(handler)) + (last == -1 ? 0 : 9 * costs.get(last));
        return more(cost, GUARD, body, set, handler, last);
    }

    int forget() {
        int before = nodes.size();
        nodes.clear();
        costs.clear();
        forgetReport();
        return before;
    }

    // ---- runs

    int run(int node) {
        if (!nodeIs(node)) {
            return BAD;
        }
        Arrays.fill(ran, 0);
        ran[5] = -1;
        return done(node);
    }

    private int done(int node) {
        int[] n = nodes.get(node);
        switch (n[0]) {
            case BOTH: {
                int failure = done(n[1]);
                return failure != 0 ? failure : done(n[2]);
            }
            case CHOICE:
                return done((n[2] == 0 ? slots[n[1]] == null : isA(slots[n[1]], n[2])) ? n[3] : n[4]);
            case GUARD:
                return guarded(n);
            default: {
                ran[0]++;
                int failure = failureOf(n);
                if (failure != 0) {
                    ran[1]++;
                    ran[5] = node;
                }
                return failure;
            }
        }
    }

    private int guarded(int[] n) {
        int failure = done(n[1]);
        if (failure != 0 && (n[2] & 1 << failure) != 0) {
            failure = n[3] == -1 ? 0 : done(n[3]);
        }
        if (n[4] != -1) {
            ran[3]++;
            int then = done(n[4]);
            if (then != 0) {
                ran[4] += failure != 0 ? 1 : 0;
                failure = then;
            }
        }
        return failure;
    }

    private static boolean isA(Object thing, int kind) {
        switch (kind) {
            case 1: return thing instanceof int[];
            case 2: return thing instanceof byte[];
            case 3: return thing instanceof long[];
            case 4: return thing instanceof double[];
            case 5: return thing instanceof int[][];
            case 6: return thing instanceof Figure[];
            case 7: return thing instanceof Round[];
            case 8: return thing instanceof Figure;
            default: return thing instanceof Round;
        }
    }

    private static Object cast(Object thing, int kind) {
        switch (kind) {
            case 1: return (int[]) thing;
            case 2: return (byte[]) thing;
            case 3: return (long[]) thing;
            case 4: return (double[]) thing;
            case 5: return (int[][]) thing;
            case 6: return (Figure[]) thing;
            case 7: return (Round[]) thing;
            case 8: return (Figure) thing;
            case 9: return (Round) thing;
            default: return thing;
        }
    }

    private int failureOf(int[] n) {
        try {
            perform(n[0], n[1], n[2], n[3], n[4]);
            return 0;
        } catch (NullPointerException e) {
            return 1;
        } catch (ClassCastException e) {
            return 2;
        } catch (IndexOutOfBoundsException e) {
            return 3;
        } catch (NegativeArraySizeException e) {
            return 4;
        } catch (ArrayStoreException e) {
            return 5;
        } catch (ArithmeticException e) {
            return 6;
        } catch (Own e) {
            return 7;
        } catch (NoRoom e) {
            return 8;
        }
    }

    private void needRoom(long moreThings, long moreItems) {
        if (things.size() + moreThings > 200 || items + moreItems > 3000) {
            throw new NoRoom();
        }
        items += (int) moreItems;
    }

    private Object added(Object thing) {
        things.add(thing);
        return thing;
    }

    private void perform(int op, int a, int b, int c, int d) {
        switch (op) {
            case 0: slots[a] = newRow(b, c); break;
            case 1: slots[a] = newDeep(b, c); break;
            case 2:
                if (b >= 0) {
                    needRoom(1, b);
                }
                slots[a] = added(new int[b][]);
                break;
            case 3:
                needRoom(1, 0);
                slots[a] = added(b == 0 ? new Figure(c) : new Round(c));
                break;
            case 4: slots[a] = cast(slots[b], c); break;
            case 5: registers[a] = got(slots[b], c, d); break;
            case 6: put(slots[a], b, c, registers[d]); break;
            case 7: slots[a] = c == 5 ? ((int[][]) slots[b])[d] : c == 6 ? ((Figure[]) slots[b])[d] : ((Round[]) slots[b])[d]; break;
            case 8: lay(slots[a], b, c, slots[d]); break;
            case 9: registers[a] = java.lang.reflect.Array.getLength(cast(slots[b], c)); break;
            case 10: {
                int[] row = (int[]) slots[b];
                needRoom(1, row.length);
                slots[a] = added(row.clone());
                break;
            }
            case 11: registers[a] = ((Figure) slots[b]).tells(); break;
            case 12: copy(slots[a], b, slots[c], d, (int) registers[7]); break;
            case 13: registers[a] = b; break;
            case 14: registers[a] = registers[b] + registers[c]; break;
            case 15: registers[a] = registers[b] / registers[c]; break;
            case 16: registers[a] = registers[b] % registers[c]; break;
            default: throw new Own();
        }
    }

    private Object newRow(int kind, int length) {
        if (length >= 0) {
            needRoom(1, length);
        }
        switch (kind) {
            case 1: return added(new int[length]);
            case 2: return added(new byte[length]);
            case 3: return added(new long[length]);
            case 4: return added(new double[length]);
            case 6: return added(new Figure[length]);
            default: return added(new Round[length]);
        }
    }

    private Object newDeep(int rows, int length) {
        // Java makes the outer row before it looks at the length of the inner ones.
        if (rows < 0 || length < 0) {
            throw new NegativeArraySizeException();
        }
        needRoom(1L + rows, rows * (1L + length));
        int[][] deep = new int[rows][length];
        added(deep);
        for (int[] row : deep) {
            added(row);
        }
        return deep;
    }

    private static long got(Object row, int kind, int i) {
        switch (kind) {
            case 1: return ((int[]) row)[i];
            case 2: return ((byte[]) row)[i];
            case 3: return ((long[]) row)[i];
            default: return Double.doubleToLongBits(((double[]) row)[i]);
        }
    }

    private static void put(Object row, int kind, int i, long value) {
        switch (kind) {
            case 1: ((int[]) row)[i] = (int) value; break;
            case 2: ((byte[]) row)[i] = (byte) value; break;
            case 3: ((long[]) row)[i] = value; break;
            default: ((double[]) row)[i] = Double.longBitsToDouble(value); break;
        }
    }

    private static void lay(Object row, int kind, int i, Object thing) {
        switch (kind) {
            case 5: ((int[][]) row)[i] = (int[]) thing; break;
            case 6: ((Figure[]) row)[i] = (Figure) thing; break;
            default: ((Round[]) row)[i] = (Round) thing; break;
        }
    }

    private void copy(Object from, int at, Object to, int place, int length) {
        int able = length;
        if (from instanceof Object[] f && to instanceof Object[] && from != to) {
            able = 0;
            while (able < length && (long) at + able < f.length && at + able >= 0
                    && (f[at + able] == null || to.getClass().getComponentType().isInstance(f[at + able]))) {
                able++;
            }
        }
        try {
            System.arraycopy(from, at, to, place, length);
            ran[2] += length;
        } catch (ArrayStoreException e) {
            ran[2] += from instanceof Object[] && to instanceof Object[] ? able : 0;
            throw e;
        }
    }

    int ran(int what) {
        return in(what, 0, 5) ? ran[what] : BAD;
    }

    int clear() {
        int before = things.size();
        things.clear();
        items = 0;
        Arrays.fill(slots, null);
        Arrays.fill(registers, 0);
        return before;
    }

    int count(int what) {
        switch (what) {
            case 0: return things.size();
            case 1: return items;
            case 2: return nodes.size();
            case 3: return costs.isEmpty() ? 0 : costs.get(costs.size() - 1);
            default: return BAD;
        }
    }

    private int numberOf(Object thing) {
        for (int i = 0; i < things.size(); i++) {
            if (things.get(i) == thing) {
                return i + 1;
            }
        }
        return 0;
    }

    private static int kindOf(Object thing) {
        int kind = 0;
        for (int k = 1; k <= 9; k++) {
            if (isA(thing, k)) {
                kind = k;
            }
        }
        return kind;
    }

    int slot(int slot, int what) {
        if (!slotIs(slot) || !in(what, 0, 2)) {
            return BAD;
        }
        Object thing = slots[slot];
        if (what == 0) {
            return numberOf(thing);
        }
        if (what == 1) {
            return kindOf(thing);
        }
        return thing == null ? 0 : thing instanceof Figure f ? f.number : java.lang.reflect.Array.getLength(thing);
    }

    long item(int slot, int i) {
        if (!slotIs(slot) || slots[slot] == null || slots[slot] instanceof Figure) {
            return 0;
        }
        if (!in(i, 0, java.lang.reflect.Array.getLength(slots[slot]) - 1)) {
            return 0;
        }
        int kind = kindOf(slots[slot]);
        return kind <= 4 ? got(slots[slot], kind, i) : numberOf(((Object[]) slots[slot])[i]);
    }

    long register(int r) {
        return registerIs(r) ? registers[r] : 0;
    }

    int alike(int slot, int other) {
        if (!slotIs(slot) || !slotIs(other)) {
            return BAD;
        }
        Object one = slots[slot];
        Object two = slots[other];
        if (one == two) {
            return 1;
        }
        if (one == null || two == null || one.getClass() != two.getClass()) {
            return 0;
        }
        switch (kindOf(one)) {
            case 1: return Arrays.equals((int[]) one, (int[]) two) ? 2 : 0;
            case 2: return Arrays.equals((byte[]) one, (byte[]) two) ? 2 : 0;
            case 3: return Arrays.equals((long[]) one, (long[]) two) ? 2 : 0;
            case 4: return Arrays.equals((double[]) one, (double[]) two) ? 2 : 0;
            case 5: return Arrays.deepEquals((int[][]) one, (int[][]) two) ? 2 : 0;
            case 6: case 7: return Arrays.equals((Figure[]) one, (Figure[]) two) ? 2 : 0;
            default: return ((Figure) one).number == ((Figure) two).number ? 2 : 0;
        }
    }

    // ---- reports

    private void forgetReport() {
        aheads.clear();
        mays.clear();
        bodies.clear();
        losts.clear();
    }

    private static int bits(Iterable<Integer> set) {
        int bits = 0;
        for (int k : set) {
            bits |= 1 << k;
        }
        return bits;
    }

    int given(int slot, int set) {
        if (!slotIs(slot) || set == 0 || (set & ~1023) != 0) {
            return BAD;
        }
        int before = bits(start.get(slot));
        TreeSet<Integer> kinds = new TreeSet<>();
        for (int k = 0; k <= 9; k++) {
            if ((set & 1 << k) != 0) {
                kinds.add(k);
            }
        }
        start.set(slot, kinds);
        return before;
    }

    int report(int node) {
        if (!nodeIs(node)) {
            return BAD;
        }
        forgetReport();
        return bits(through(node, new ArrayList<>(start)).keySet());
    }

    int reached(int node) {
        return !nodeIs(node) ? BAD : aheads.containsKey(node) ? 1 : 0;
    }

    int may(int node) {
        return !nodeIs(node) ? BAD : mays.getOrDefault(node, 0);
    }

    int ahead(int node, int slot) {
        return !nodeIs(node) || !slotIs(slot) ? BAD : aheads.containsKey(node) ? bits(aheads.get(node).get(slot)) : 0;
    }

    int guarded(int node, int what) {
        if (!nodeIs(node) || !in(what, 0, 1) || nodes.get(node)[0] != GUARD) {
            return BAD;
        }
        if (!aheads.containsKey(node)) {
            return 0;
        }
        return what == 0 ? nodes.get(node)[2] & 510 & ~bodies.get(node) : losts.get(node);
    }

    private static boolean isOf(int kind, int other) {
        return kind == other || kind == 9 && other == 8 || kind == 7 && other == 6;
    }

    private static List<TreeSet<Integer>> together(List<TreeSet<Integer>> one, List<TreeSet<Integer>> other) {
        if (one == null || other == null) {
            return one == null ? other : one;
        }
        List<TreeSet<Integer>> both = new ArrayList<>();
        for (int s = 0; s < 12; s++) {
            TreeSet<Integer> set = new TreeSet<>(one.get(s));
            set.addAll(other.get(s));
            both.add(set);
        }
        return both;
    }

    private static void come(Map<Integer, List<TreeSet<Integer>>> ways, int way, List<TreeSet<Integer>> state) {
        if (state != null) {
            ways.put(way, together(ways.get(way), state));
        }
    }

    private static List<TreeSet<Integer>> with(List<TreeSet<Integer>> state, int slot, TreeSet<Integer> set) {
        if (set.isEmpty()) {
            return null;
        }
        List<TreeSet<Integer>> changed = new ArrayList<>(state);
        changed.set(slot, set);
        return changed;
    }

    private Map<Integer, List<TreeSet<Integer>>> through(int node, List<TreeSet<Integer>> state) {
        aheads.put(node, together(aheads.get(node), state));
        int[] n = nodes.get(node);
        Map<Integer, List<TreeSet<Integer>>> ways = new TreeMap<>();
        if (n[0] == BOTH) {
            ways.putAll(through(n[1], state));
            List<TreeSet<Integer>> end = ways.remove(0);
            if (end != null) {
                through(n[2], end).forEach((way, s) -> come(ways, way, s));
            }
        } else if (n[0] == CHOICE) {
            TreeSet<Integer> are = new TreeSet<>(state.get(n[1]));
            TreeSet<Integer> others = new TreeSet<>(state.get(n[1]));
            are.removeIf(k -> !isOf(k, n[2]));
            others.removeIf(k -> isOf(k, n[2]));
            if (!are.isEmpty()) {
                through(n[3], with(state, n[1], are)).forEach((way, s) -> come(ways, way, s));
            }
            if (!others.isEmpty()) {
                through(n[4], with(state, n[1], others)).forEach((way, s) -> come(ways, way, s));
            }
        } else if (n[0] == GUARD) {
            throughGuard(node, n, state, ways);
        } else {
            come(ways, 0, throughAct(n[0], n[1], n[2], n[3], n[4], state, ways));
        }
        mays.merge(node, bits(ways.keySet()), (x, y) -> x | y);
        return ways;
    }

    private void throughGuard(int node, int[] n, List<TreeSet<Integer>> state, Map<Integer, List<TreeSet<Integer>>> ways) {
        Map<Integer, List<TreeSet<Integer>>> body = through(n[1], state);
        bodies.merge(node, bits(body.keySet()), (x, y) -> x | y);
        losts.merge(node, 0, (x, y) -> x | y);
        List<TreeSet<Integer>> taken = null;
        Map<Integer, List<TreeSet<Integer>>> all = new TreeMap<>();
        for (Map.Entry<Integer, List<TreeSet<Integer>>> way : body.entrySet()) {
            if (way.getKey() > 0 && (n[2] & 1 << way.getKey()) != 0) {
                taken = together(taken, way.getValue());
            } else {
                come(all, way.getKey(), way.getValue());
            }
        }
        if (taken != null && n[3] == -1) {
            come(all, 0, taken);
        } else if (taken != null) {
            through(n[3], taken).forEach((way, s) -> come(all, way, s));
        }
        for (Map.Entry<Integer, List<TreeSet<Integer>>> way : all.entrySet()) {
            if (n[4] == -1) {
                come(ways, way.getKey(), way.getValue());
                continue;
            }
            for (Map.Entry<Integer, List<TreeSet<Integer>>> last : through(n[4], way.getValue()).entrySet()) {
                come(ways, last.getKey() == 0 ? way.getKey() : last.getKey(), last.getValue());
                if (last.getKey() > 0 && way.getKey() > 0) {
                    losts.merge(node, 1 << way.getKey(), (x, y) -> x | y);
                }
            }
        }
    }

    private static List<TreeSet<Integer>> as(int slot, int kind, List<TreeSet<Integer>> s, Map<Integer, List<TreeSet<Integer>>> ways) {
        TreeSet<Integer> fail = new TreeSet<>();
        TreeSet<Integer> rest = new TreeSet<>();
        for (int k : s.get(slot)) {
            (k > 0 && !isOf(k, kind) ? fail : rest).add(k);
        }
        come(ways, 2, with(s, slot, fail));
        return with(s, slot, rest);
    }

    private static List<TreeSet<Integer>> something(int slot, List<TreeSet<Integer>> s, Map<Integer, List<TreeSet<Integer>>> ways) {
        if (s == null || !s.get(slot).contains(0)) {
            return s;
        }
        come(ways, 1, with(s, slot, new TreeSet<>(List.of(0))));
        TreeSet<Integer> rest = new TreeSet<>(s.get(slot));
        rest.remove(0);
        return with(s, slot, rest);
    }

    private static List<TreeSet<Integer>> row(int slot, int kind, List<TreeSet<Integer>> s, Map<Integer, List<TreeSet<Integer>>> ways) {
        return something(slot, as(slot, kind, s, ways), ways);
    }

    private static List<TreeSet<Integer>> chance(int failure, List<TreeSet<Integer>> s, Map<Integer, List<TreeSet<Integer>>> ways) {
        come(ways, failure, s);
        return s;
    }

    private static List<TreeSet<Integer>> anew(boolean wrong, int slot, int kind, List<TreeSet<Integer>> s,
            Map<Integer, List<TreeSet<Integer>>> ways) {
        if (s == null) {
            return null;
        }
        if (wrong) {
            come(ways, 4, s);
            return null;
        }
        come(ways, 8, s);
        return with(s, slot, new TreeSet<>(List.of(kind)));
    }

    private static List<TreeSet<Integer>> throughAct(int op, int a, int b, int c, int d, List<TreeSet<Integer>> s,
            Map<Integer, List<TreeSet<Integer>>> ways) {
        switch (op) {
            case 0: return anew(c < 0, a, b, s, ways);
            case 1: return anew(b < 0 || c < 0, a, 5, s, ways);
            case 2: return anew(b < 0, a, 5, s, ways);
            case 3: return anew(false, a, b == 0 ? 8 : 9, s, ways);
            case 4: {
                List<TreeSet<Integer>> t = c == 0 ? s : as(b, c, s, ways);
                return t == null ? null : with(t, a, t.get(b));
            }
            case 5: return chance(3, row(b, c, s, ways), ways);
            case 6: return chance(3, row(a, b, s, ways), ways);
            case 7: {
                List<TreeSet<Integer>> t = chance(3, row(b, c, s, ways), ways);
                if (t == null) {
                    return null;
                }
                TreeSet<Integer> set = new TreeSet<>(c == 5 ? List.of(0, 1) : t.get(b).contains(6) ? List.of(0, 8, 9) : List.of(0, 9));
                return with(t, a, set);
            }
            case 8: return throughLay(a, b, d, s, ways);
            case 9: return row(b, c, s, ways);
            case 10: return anew(false, a, 1, row(b, 1, s, ways), ways);
            case 11: return row(b, 8, s, ways);
            case 12: return throughCopy(a, c, s, ways);
            case 13: case 14: return s;
            case 15: case 16: return chance(6, s, ways);
            default:
                come(ways, 7, s);
                return null;
        }
    }

    private static List<TreeSet<Integer>> throughLay(int a, int b, int d, List<TreeSet<Integer>> s,
            Map<Integer, List<TreeSet<Integer>>> ways) {
        List<TreeSet<Integer>> t = as(a, b, s, ways);
        t = t == null ? null : as(d, b == 5 ? 1 : b + 2, t, ways);
        t = chance(3, something(a, t, ways), ways);
        if (t == null || !t.get(a).contains(7) || !t.get(d).contains(8)) {
            return t;
        }
        come(ways, 5, t);
        boolean justRounds = t.get(a).size() == 1;
        boolean justFigures = t.get(d).size() == 1;
        if (justRounds && justFigures) {
            return null;
        }
        TreeSet<Integer> set = new TreeSet<>(t.get(justFigures ? a : d));
        if (justFigures) {
            set.remove(7);
            return with(t, a, set);
        }
        if (justRounds) {
            set.remove(8);
            return with(t, d, set);
        }
        return t;
    }

    private static boolean meet(int one, int other) {
        return one >= 1 && one <= 7 && one == other || in(one, 5, 7) && in(other, 5, 7);
    }

    private static List<TreeSet<Integer>> throughCopy(int a, int c, List<TreeSet<Integer>> s,
            Map<Integer, List<TreeSet<Integer>>> ways) {
        TreeSet<Integer> from = new TreeSet<>(s.get(a));
        TreeSet<Integer> to = new TreeSet<>(s.get(c));
        if (from.contains(0) || to.contains(0)) {
            come(ways, 1, s);
        }
        from.remove(0);
        to.remove(0);
        if (from.isEmpty() || to.isEmpty()) {
            return null;
        }
        List<TreeSet<Integer>> t = with(with(s, a, from), c, to);
        TreeSet<Integer> fromLeft = new TreeSet<>();
        TreeSet<Integer> toLeft = new TreeSet<>();
        for (int one : from) {
            for (int other : to) {
                if (meet(one, other)) {
                    fromLeft.add(one);
                    toLeft.add(other);
                }
                if (!meet(one, other) || List.of(56, 57, 65, 75, 67).contains(10 * one + other)) {
                    come(ways, 5, t);
                }
            }
        }
        if (fromLeft.isEmpty()) {
            return null;
        }
        return chance(3, with(with(t, a, fromLeft), c, toLeft), ways);
    }
}

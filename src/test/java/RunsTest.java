/** Promises 7 to 14: what runs do, act by act and node by node, and what can be seen of it. */
public final class RunsTest extends Words {
    public static void main(String[] args) {
        makes();
        makesDeepAndThin();
        makesFigures();
        room();
        roomOneByOne();
        moves();
        getsAndSets();
        doubles();
        takes();
        lays();
        lengths();
        clones();
        tells();
        copies();
        copiesThatFail();
        copiesOfThings();
        reckons();
        nodes();
        guards();
        ranCounts();
        refusedRuns();
        clears();
        looks();
        likeness();
        Check.end();
    }

    private static void makes() {
        ThrowReports x = new ThrowReports();
        int number = 0;
        for (int kind : new int[] {1, 2, 3, 4, 6, 7}) {
            number++;
            Check.due("MAKE " + kind, does(x, MAKE, kind, kind, kind), 0);
            Check.due("number of " + kind, x.slot(kind, 0), number);
            Check.due("KIND of " + kind, x.slot(kind, 1), kind);
            Check.due("length of " + kind, x.slot(kind, 2), kind);
            for (int i = -1; i <= kind; i++) {
                Check.due("item at first", x.item(kind, i), 0);
            }
        }
        Check.due("THINGS", x.count(0), 6);
        Check.due("items", x.count(1), 23);
        Check.due("SIZE", does(x, MAKE, 1, 2, -1), SIZE);
        Check.due("SIZE", does(x, MAKE, 1, 2, MIN), SIZE);
        Check.due("unchanged", x.slot(1, 1), 1);
        Check.due("unchanged", x.count(0), 6);
        Check.due("no items", does(x, MAKE, 1, 2, 0), 0);
        Check.due("no items", x.slot(1, 2), 0);
        Check.due("a THING all the same", x.slot(1, 0), 7);
    }

    private static void makesDeepAndThin() {
        ThrowReports x = new ThrowReports();
        Check.due("DEEP", does(x, DEEP, 4, 2, 3), 0);
        Check.due("number", x.slot(4, 0), 1);
        Check.due("KIND", x.slot(4, 1), 5);
        Check.due("length", x.slot(4, 2), 2);
        Check.due("first row", x.item(4, 0), 2);
        Check.due("second row", x.item(4, 1), 3);
        Check.due("items", x.count(1), 8);
        does(x, TAKE, 5, 4, 5, 1);
        Check.due("KIND of a row", x.slot(5, 1), 1);
        Check.due("length of a row", x.slot(5, 2), 3);
        Check.due("SIZE", does(x, DEEP, 4, -1, 3), SIZE);
        Check.due("SIZE", does(x, DEEP, 4, 3, -1), SIZE);
        Check.due("SIZE even of no rows", does(x, DEEP, 4, 0, -1), SIZE);
        Check.due("no rows", does(x, DEEP, 4, 0, MAX), 0);
        Check.due("no rows", x.slot(4, 2), 0);
        Check.due("THINGS", x.count(0), 4);
        Check.due("THIN", does(x, THIN, 6, 3, -1), 0);
        Check.due("KIND", x.slot(6, 1), 5);
        Check.due("length", x.slot(6, 2), 3);
        Check.due("NOTHING in it", x.item(6, 2), 0);
        Check.due("SIZE", does(x, THIN, 6, -1, 0), SIZE);
        Check.due("items", x.count(1), 11);
    }

    private static void makesFigures() {
        ThrowReports x = new ThrowReports();
        Check.due("FIGURE", does(x, FIGURE, 0, 0, MIN), 0);
        Check.due("ROUND", does(x, FIGURE, 1, 1, -7), 0);
        Check.due("ROUND", does(x, FIGURE, 2, MIN, MAX), 0);
        Check.due("KIND", x.slot(0, 1), 8);
        Check.due("KIND", x.slot(1, 1), 9);
        Check.due("KIND", x.slot(2, 1), 9);
        Check.due("NUMBER", x.slot(0, 2), MIN);
        Check.due("NUMBER", x.slot(1, 2), -7);
        Check.due("NUMBER", x.slot(2, 2), MAX);
        Check.due("no items", x.count(1), 0);
        Check.due("no row", x.item(2, 0), 0);
    }

    private static void room() {
        ThrowReports x = new ThrowReports();
        Check.due("3001 items", does(x, MAKE, 0, 1, 3001), ROOM);
        Check.due("items without end", does(x, MAKE, 0, 1, MAX), ROOM);
        Check.due("items without end", does(x, THIN, 0, MAX, 0), ROOM);
        Check.due("items without end", does(x, DEEP, 0, MAX, MAX), ROOM);
        Check.due("wrapping items", does(x, DEEP, 0, 65536, 65536), ROOM);
        Check.due("wrapping items", does(x, DEEP, 0, 128, 1 << 25), ROOM);
        Check.due("items of rows and row", does(x, DEEP, 0, 1, 3000), ROOM);
        Check.due("THINGS of rows and row", does(x, DEEP, 0, 200, 0), ROOM);
        Check.due("nothing made", x.count(0), 0);
        Check.due("199 rows", does(x, DEEP, 0, 199, 0), 0);
        Check.due("THINGS", x.count(0), 200);
        Check.due("no FIGURE more", does(x, FIGURE, 1, 0, 0), ROOM);
        Check.due("no row more", does(x, MAKE, 1, 1, 0), ROOM);
        does(x, TAKE, 2, 0, 5, 198);
        Check.due("number of the last row", x.slot(2, 0), 200);
        Check.due("no clone more", does(x, CLONE, 1, 2, 0), ROOM);
        Check.due("NOTHING before ROOM", does(x, CLONE, 1, 3, 0), NOTHING);
        Check.due("SIZE before ROOM", does(x, MAKE, 1, 1, -1), SIZE);
        Check.due("SLOT unchanged", x.slot(1, 0), 0);
        Check.due("cleared", x.clear(), 200);
        Check.due("3000 items", does(x, DEEP, 0, 1, 2999), 0);
        Check.due("items", x.count(1), 3000);
        Check.due("FIGURE still", does(x, FIGURE, 1, 0, 0), 0);
        Check.due("no item still", does(x, MAKE, 1, 3, 0), 0);
        Check.due("no item more", does(x, MAKE, 1, 3, 1), ROOM);
        Check.due("no item more", does(x, THIN, 1, 1, 0), ROOM);
        does(x, TAKE, 2, 0, 5, 0);
        Check.due("no clone more", does(x, CLONE, 1, 2, 0), ROOM);
        Check.due("last item", does(x, SET, 2, 1, 2998, 0), 0);
        Check.due("cleared", x.clear(), 4);
        Check.due("a row of 3000", does(x, MAKE, 0, 4, 3000), 0);
    }

    private static void roomOneByOne() {
        ThrowReports x = new ThrowReports();
        int row = x.act(MAKE, 0, 1, 0, 0);
        int figure = x.act(FIGURE, 1, 0, 0, 0);
        for (int i = 0; i < 99; i++) {
            Check.due("a row more", x.run(row), 0);
            Check.due("a FIGURE more", x.run(figure), 0);
        }
        Check.due("the 199th", x.run(row), 0);
        Check.due("the 200th", x.run(figure), 0);
        Check.due("its number", x.slot(1, 0), 200);
        Check.due("no row more", x.run(row), ROOM);
        Check.due("no FIGURE more", x.run(figure), ROOM);
        x.clear();
        for (int i = 0; i < 199; i++) {
            x.run(figure);
        }
        Check.due("the 200th", x.run(row), 0);
        Check.due("its number", x.slot(0, 0), 200);
    }

    private static void moves() {
        for (int held = 0; held <= 9; held++) {
            for (int as = 0; as <= 9; as++) {
                ThrowReports x = oneOfEach();
                boolean goes = held == 0 || as == 0 || is(held, as);
                String what = "MOVE " + held + " AS " + as;
                Check.due(what, does(x, MOVE, 11, held, as), goes ? 0 : UNLIKE);
                Check.due(what, x.slot(11, 0), goes ? held : 0);
                Check.due(what + " the same", x.alike(held, 11), goes ? 1 : 0);
            }
        }
        ThrowReports x = oneOfEach();
        Check.due("MOVE NOTHING", does(x, MOVE, 4, 0, 3), 0);
        Check.due("MOVE NOTHING", x.slot(4, 1), 0);
        Check.due("MOVE to itself", does(x, MOVE, 5, 5, 5), 0);
        Check.due("MOVE to itself", x.slot(5, 0), 5);
    }

    private static void getsAndSets() {
        for (int held = 0; held <= 9; held++) {
            for (int as = 1; as <= 4; as++) {
                ThrowReports x = oneOfEach();
                int want = held == 0 ? NOTHING : held == as ? 0 : UNLIKE;
                Check.due("GET " + held + " AS " + as, does(x, GET, 0, held, as, 2), want);
                Check.due("SET " + held + " AS " + as, does(x, SET, held, as, 2, 1), want);
                int place = want == 0 ? PLACE : want;
                for (int wrong : new int[] {MIN, -1, 3, MAX}) {
                    Check.due("GET " + held + " AS " + as + " at " + wrong, does(x, GET, 0, held, as, wrong), place);
                    Check.due("SET " + held + " AS " + as + " at " + wrong, does(x, SET, held, as, wrong, 0), place);
                }
            }
        }
        ThrowReports x = oneOfEach();
        does(x, NUMBER, 1, MAX, 0);
        does(x, ADD, 1, 1, 1);
        does(x, NUMBER, 2, 131, 0);
        does(x, ADD, 1, 1, 2);
        long big = 2L * MAX + 131;
        Check.due("big REGISTER", x.register(1), big);
        for (int kind = 1; kind <= 4; kind++) {
            Check.due("SET " + kind, does(x, SET, kind, kind, 1, 1), 0);
            Check.due("GET " + kind, does(x, GET, 3, kind, kind, 1), 0);
            long want = kind == 1 ? (int) big : kind == 2 ? (byte) big : big;
            Check.due("item of " + kind, x.item(kind, 1), want);
            Check.due("REGISTER of " + kind, x.register(3), want);
            Check.due("item beside", x.item(kind, 0), 0);
            Check.due("item beside", x.item(kind, 2), 0);
        }
        Check.due("byte with sign", x.item(2, 1), -127);
        Check.due("failed GET", does(x, GET, 3, 1, 1, 3), PLACE);
        Check.due("REGISTER unchanged", x.register(3), big);
    }

    private static long doubled(ThrowReports x, int register, int number, int times) {
        does(x, NUMBER, register, number, 0);
        int node = x.act(ADD, register, register, register, 0);
        for (int i = 0; i < times; i++) {
            x.run(node);
        }
        x.forget();
        return x.register(register);
    }

    private static void doubles() {
        ThrowReports x = new ThrowReports();
        long none = 0x7FF8000000000000L;
        does(x, MAKE, 0, 4, 8);
        does(x, MAKE, 1, 3, 8);
        Check.due("-infinite", doubled(x, 0, -16, 48), 0xFFF0000000000000L);
        Check.due("infinite", doubled(x, 1, 2047, 52), 0x7FF0000000000000L);
        does(x, NUMBER, 2, 1, 0);
        does(x, ADD, 3, 0, 2);
        does(x, ADD, 4, 1, 2);
        does(x, NUMBER, 5, -1, 0);
        Check.due("-0.0", doubled(x, 6, MIN, 32), Long.MIN_VALUE);
        long[] want = {0xFFF0000000000000L, 0x7FF0000000000000L, 1, none, none, none, Long.MIN_VALUE};
        for (int r = 0; r < 7; r++) {
            does(x, SET, 0, 4, r, r);
            does(x, SET, 1, 3, r, r);
            Check.due("double " + r, x.item(0, r), want[r]);
            Check.due("long " + r, x.item(1, r), x.register(r));
        }
        does(x, GET, 7, 0, 4, 3);
        Check.due("GET of none", x.register(7), none);
        does(x, MAKE, 2, 4, 8);
        does(x, NUMBER, 7, 8, 0);
        Check.due("COPY", does(x, COPY, 0, 0, 2, 0), 0);
        Check.due("alike", x.alike(0, 2), 2);
        does(x, ADD, 5, 5, 5);
        does(x, SET, 2, 4, 5, 5);
        Check.due("any that is none is alike", x.alike(0, 2), 2);
        does(x, NUMBER, 5, 0, 0);
        does(x, SET, 2, 4, 6, 5);
        Check.due("0.0 and -0.0", x.alike(0, 2), 0);
    }

    private static void takes() {
        for (int held = 0; held <= 9; held++) {
            for (int as = 5; as <= 7; as++) {
                ThrowReports x = oneOfEach();
                int want = held == 0 ? NOTHING : is(held, as) ? 0 : UNLIKE;
                Check.due("TAKE " + held + " AS " + as, does(x, TAKE, 1, held, as, 2), want);
                Check.due("taken", x.slot(1, 0), want == 0 ? 0 : 1);
                int place = want == 0 ? PLACE : want;
                for (int wrong : new int[] {MIN, -1, 3, MAX}) {
                    Check.due("TAKE " + held + " AS " + as + " at " + wrong, does(x, TAKE, 2, held, as, wrong), place);
                }
                Check.due("not taken", x.slot(2, 0), 2);
            }
        }
        ThrowReports x = oneOfEach();
        does(x, LAY, 6, 6, 1, 9);
        Check.due("TAKE to its own SLOT", does(x, TAKE, 6, 6, 6, 1), 0);
        Check.due("taken", x.slot(6, 0), 9);
    }

    private static void lays() {
        for (int row = 0; row <= 9; row++) {
            for (int laid = 0; laid <= 9; laid++) {
                for (int as = 5; as <= 7; as++) {
                    laysOne(row, laid, as);
                }
            }
        }
        ThrowReports x = oneOfEach();
        does(x, LAY, 6, 6, 0, 8);
        does(x, LAY, 6, 6, 0, 0);
        Check.due("NOTHING laid", x.item(6, 0), 0);
        does(x, MOVE, 10, 7, 0);
        Check.due("a SLOT in itself", does(x, LAY, 5, 5, 0, 5), UNLIKE);
    }

    private static void laysOne(int row, int laid, int as) {
        ThrowReports x = oneOfEach();
        int itemKind = as == 5 ? 1 : as == 6 ? 8 : 9;
        int want = 0;
        if (row != 0 && !is(row, as) || laid != 0 && !is(laid, itemKind)) {
            want = UNLIKE;
        } else if (row == 0) {
            want = NOTHING;
        }
        int place = want == 0 ? PLACE : want;
        if (want == 0 && row == 7 && laid == 8) {
            want = STORE;
        }
        String what = "LAY " + laid + " to " + row + " AS " + as;
        for (int wrong : new int[] {MIN, -1, 3, MAX}) {
            Check.due(what + " at " + wrong, does(x, LAY, row, as, wrong, laid), place);
        }
        Check.due(what, does(x, LAY, row, as, 1, laid), want);
        Check.due(what, x.item(row, 1), want == 0 ? laid : 0);
        Check.due(what, x.item(row, 0) + x.item(row, 2), 0);
    }

    private static void lengths() {
        for (int held = 0; held <= 9; held++) {
            for (int as = 1; as <= 7; as++) {
                ThrowReports x = oneOfEach();
                int want = held == 0 ? NOTHING : is(held, as) ? 0 : UNLIKE;
                Check.due("LENGTH " + held + " AS " + as, does(x, LENGTH, 6, held, as), want);
                Check.due("LENGTH " + held + " AS " + as, x.register(6), want == 0 ? 3 : 0);
            }
        }
    }

    private static void clones() {
        for (int held = 0; held <= 9; held++) {
            ThrowReports x = oneOfEach();
            int want = held == 0 ? NOTHING : held == 1 ? 0 : UNLIKE;
            Check.due("CLONE " + held, does(x, CLONE, 11, held, 0), want);
            Check.due("CLONE " + held, x.slot(11, 0), want == 0 ? 10 : 0);
        }
        ThrowReports x = oneOfEach();
        does(x, NUMBER, 0, 44, 0);
        does(x, SET, 1, 1, 2, 0);
        Check.due("CLONE to its own SLOT", does(x, CLONE, 1, 1, 0), 0);
        Check.due("another THING", x.slot(1, 0), 10);
        Check.due("with the items", x.item(1, 2), 44);
        Check.due("KIND", x.slot(1, 1), 1);
        does(x, CLONE, 2, 1, 0);
        does(x, SET, 1, 1, 0, 0);
        Check.due("a row of its own", x.item(2, 0), 0);
        Check.due("a row of its own", x.item(1, 0), 44);
        Check.due("items", x.count(1), 27);
    }

    private static void tells() {
        for (int held = 0; held <= 9; held++) {
            ThrowReports x = oneOfEach();
            int want = held == 0 ? NOTHING : is(held, 8) ? 0 : UNLIKE;
            Check.due("TELLS " + held, does(x, TELLS, 3, held, 0), want);
            Check.due("TELLS " + held, x.register(3), held == 8 ? 5 : held == 9 ? 11 : 0);
        }
        int[] numbers = {MIN, -1, 0, 1 << 30, MAX};
        int[] round = {1, -1, 1, MIN + 1, -1};
        for (int i = 0; i < numbers.length; i++) {
            ThrowReports x = new ThrowReports();
            does(x, FIGURE, 0, 0, numbers[i]);
            does(x, FIGURE, 1, 2, numbers[i]);
            does(x, TELLS, 0, 0, 0);
            does(x, TELLS, 1, 1, 0);
            Check.due("FIGURE TELLS " + numbers[i], x.register(0), numbers[i]);
            Check.due("ROUND TELLS " + numbers[i], x.register(1), round[i]);
        }
    }

    private static void fill(ThrowReports x, int slot, int kind, int length) {
        for (int i = 0; i < length; i++) {
            does(x, NUMBER, 0, i + 1, 0);
            does(x, SET, slot, kind, i, 0);
        }
    }

    private static void copies() {
        for (int kind = 1; kind <= 4; kind++) {
            ThrowReports x = new ThrowReports();
            does(x, MAKE, 0, kind, 5);
            does(x, MAKE, 1, kind, 4);
            fill(x, 0, kind, 5);
            does(x, NUMBER, 7, 3, 0);
            Check.due("COPY", does(x, COPY, 0, 1, 1, 0), 0);
            Check.due("came", x.ran(2), 3);
            hasItems("COPY", x, 1, 2, 3, 4, 0);
            Check.due("COPY on", does(x, COPY, 0, 0, 0, 2), 0);
            hasItems("COPY on", x, 0, 1, 2, 1, 2, 3);
            fill(x, 0, kind, 5);
            does(x, NUMBER, 7, 4, 0);
            Check.due("COPY back", does(x, COPY, 0, 1, 0, 0), 0);
            hasItems("COPY back", x, 0, 2, 3, 4, 5, 5);
            does(x, MOVE, 2, 0, 0);
            fill(x, 0, kind, 5);
            Check.due("COPY of one row in two SLOTS", does(x, COPY, 0, 0, 2, 1), 0);
            hasItems("COPY of one row in two SLOTS", x, 2, 1, 1, 2, 3, 4);
            does(x, NUMBER, 7, 0, 0);
            Check.due("COPY of none at the end", does(x, COPY, 0, 5, 1, 4), 0);
            Check.due("came", x.ran(2), 0);
        }
        ThrowReports x = new ThrowReports();
        does(x, MAKE, 0, 1, 2);
        does(x, NUMBER, 7, 1 << 30, 0);
        for (int i = 0; i < 2; i++) {
            does(x, ADD, 7, 7, 7);
        }
        does(x, NUMBER, 1, 2, 0);
        does(x, ADD, 7, 7, 1);
        Check.due("REGISTER 7", x.register(7), (1L << 32) + 2);
        Check.due("its lowest 32 bits", does(x, COPY, 0, 0, 0, 0), 0);
        Check.due("came", x.ran(2), 2);
    }

    private static void copiesThatFail() {
        for (int from = 0; from <= 9; from++) {
            for (int to = 0; to <= 9; to++) {
                ThrowReports x = oneOfEach();
                boolean meet = from == to && from <= 7 || from >= 5 && from <= 7 && to >= 5 && to <= 7;
                int want = from == 0 || to == 0 ? NOTHING : meet ? 0 : STORE;
                String what = "COPY " + from + " to " + to;
                does(x, NUMBER, 7, 2, 0);
                Check.due(what, does(x, COPY, from, 0, to, 1), want);
                Check.due(what, x.ran(2), want == 0 ? 2 : 0);
                int place = want == 0 ? PLACE : want;
                for (int wrong : new int[] {MIN, -1, 2, 3, 4, MAX - 1, MAX}) {
                    Check.due(what + " from " + wrong, does(x, COPY, from, wrong, to, 0), place);
                    Check.due(what + " at " + wrong, does(x, COPY, from, 0, to, wrong), place);
                }
                for (int wrong : new int[] {MIN, -1, 4, MAX}) {
                    does(x, NUMBER, 7, wrong, 0);
                    Check.due(what + " of " + wrong, does(x, COPY, from, 1, to, 1), place);
                    Check.due("came", x.ran(2), 0);
                }
            }
        }
        ThrowReports x = new ThrowReports();
        does(x, MAKE, 0, 1, 5);
        does(x, MAKE, 1, 1, 4);
        does(x, NUMBER, 7, 5, 0);
        Check.due("longer than the other", does(x, COPY, 0, 0, 1, 0), PLACE);
        Check.due("longer than the one", does(x, COPY, 1, 0, 0, 0), PLACE);
        does(x, NUMBER, 7, 0, 0);
        Check.due("none behind the end", does(x, COPY, 0, 6, 1, 0), PLACE);
        Check.due("none behind the end", does(x, COPY, 0, 0, 1, 5), PLACE);
    }

    private static void copiesOfThings() {
        ThrowReports x = oneOfEach();
        does(x, LAY, 6, 6, 0, 9);
        does(x, LAY, 6, 6, 2, 8);
        does(x, NUMBER, 7, 3, 0);
        Check.due("FIGURES to ROUNDS", does(x, COPY, 6, 0, 7, 0), STORE);
        Check.due("two came", x.ran(2), 2);
        Check.due("failed", x.ran(1), 1);
        hasItems("FIGURES to ROUNDS", x, 7, 9, 0, 0);
        does(x, LAY, 7, 7, 2, 9);
        Check.due("ROUNDS to FIGURES", does(x, COPY, 7, 0, 6, 0), 0);
        hasItems("ROUNDS to FIGURES", x, 6, 9, 0, 9);
        Check.due("FIGURES to ROUNDS", does(x, COPY, 6, 0, 7, 0), 0);
        Check.due("FIGURES to rows", does(x, COPY, 6, 1, 5, 1), PLACE);
        does(x, NUMBER, 7, 1, 0);
        Check.due("NOTHING of FIGURES to rows", does(x, COPY, 6, 1, 5, 1), 0);
        Check.due("one came", x.ran(2), 1);
        Check.due("FIGURES to rows", does(x, COPY, 6, 0, 5, 1), STORE);
        Check.due("none came", x.ran(2), 0);
        does(x, LAY, 5, 5, 1, 1);
        does(x, NUMBER, 7, 2, 0);
        Check.due("rows to FIGURES", does(x, COPY, 5, 0, 6, 1), STORE);
        Check.due("NOTHING came", x.ran(2), 1);
        Check.due("rows to ROUNDS", does(x, COPY, 5, 0, 7, 0), STORE);
        hasItems("NOTHING came", x, 7, 0, 0, 9);
        Check.due("rows in one row", does(x, COPY, 5, 0, 5, 1), 0);
        hasItems("rows in one row", x, 5, 0, 0, 1);
        Check.due("FIGURES in one row", does(x, COPY, 6, 0, 6, 1), 0);
        hasItems("FIGURES in one row", x, 6, 9, 9, 0);
    }

    private static void reckons() {
        ThrowReports x = new ThrowReports();
        does(x, NUMBER, 0, -7, 0);
        does(x, NUMBER, 1, 2, 0);
        Check.due("DIVIDE", does(x, DIVIDE, 2, 0, 1), 0);
        Check.due("cut toward 0", x.register(2), -3);
        Check.due("REST", does(x, REST, 3, 0, 1), 0);
        Check.due("with the sign of the first", x.register(3), -1);
        Check.due("ZERO", does(x, DIVIDE, 2, 0, 4), ZERO);
        Check.due("ZERO", does(x, REST, 3, 0, 4), ZERO);
        Check.due("unchanged", x.register(2), -3);
        Check.due("unchanged", x.register(3), -1);
        Check.due("least", doubled(x, 5, MIN, 32), Long.MIN_VALUE);
        does(x, NUMBER, 6, -1, 0);
        Check.due("wrapping DIVIDE", does(x, DIVIDE, 2, 5, 6), 0);
        Check.due("wrapping DIVIDE", x.register(2), Long.MIN_VALUE);
        Check.due("wrapping REST", does(x, REST, 3, 5, 6), 0);
        Check.due("wrapping REST", x.register(3), 0);
        Check.due("wrapping ADD", does(x, ADD, 7, 5, 6), 0);
        Check.due("wrapping ADD", x.register(7), Long.MAX_VALUE);
        Check.due("NUMBER", does(x, NUMBER, 7, MIN, 0), 0);
        Check.due("NUMBER", x.register(7), MIN);
        Check.due("FAIL", does(x, FAIL, MIN, -1, MAX, 99), OWN);
    }

    private static void nodes() {
        ThrowReports x = new ThrowReports();
        int five = x.act(NUMBER, 0, 5, 0, 0);
        int fail = x.act(FAIL, 0, 0, 0, 0);
        int zero = x.act(DIVIDE, 1, 1, 1, 0);
        Check.due("BOTH stops at the first", x.run(x.both(fail, five)), OWN);
        Check.due("begun", x.ran(0), 1);
        Check.due("not done", x.register(0), 0);
        Check.due("BOTH fails by the second", x.run(x.both(five, zero)), ZERO);
        Check.due("begun", x.ran(0), 2);
        Check.due("done", x.register(0), 5);
        for (int held = 0; held <= 9; held++) {
            x = oneOfEach();
            int one = x.act(NUMBER, 0, 1, 0, 0);
            int other = x.act(NUMBER, 0, 2, 0, 0);
            for (int kind = 0; kind <= 9; kind++) {
                Check.due("CHOICE", x.run(x.choice(held, kind, one, other)), 0);
                boolean first = kind == 0 ? held == 0 : is(held, kind);
                Check.due("CHOICE of " + held + " by " + kind, x.register(0), first ? 1 : 2);
                Check.due("one of both", x.ran(0), 1);
            }
        }
    }

    private static void guards() {
        ThrowReports x = new ThrowReports();
        int own = x.act(FAIL, 0, 0, 0, 0);
        int zero = x.act(REST, 1, 1, 1, 0);
        int one = x.act(NUMBER, 2, 1, 0, 0);
        int add = x.act(ADD, 3, 3, 2, 0);
        x.run(one);
        Check.due("taken, handled", x.run(x.guard(own, 1 << OWN, add, -1)), 0);
        Check.due("handled", x.register(3), 1);
        int nothing = x.act(TELLS, 0, 0, 0, 0);
        Check.due("NOTHING taken", x.run(x.guard(nothing, 1 << NOTHING, -1, -1)), 0);
        Check.due("NOTHING not taken", x.run(x.guard(nothing, ~(1 << NOTHING), -1, -1)), NOTHING);
        Check.due("not taken", x.run(x.guard(zero, 1 << OWN, add, -1)), ZERO);
        Check.due("not handled", x.register(3), 1);
        Check.due("ends", x.run(x.guard(one, -1, own, -1)), 0);
        Check.due("no LAST PARTS", x.ran(3), 0);
        Check.due("handler fails by what it takes", x.run(x.guard(own, -1, own, -1)), OWN);
        Check.due("handler fails by another", x.run(x.guard(own, -1, zero, -1)), ZERO);
        Check.due("not LOST", x.ran(4), 0);
        Check.due("LAST after END", x.run(x.guard(one, -1, own, add)), 0);
        Check.due("LAST done", x.register(3), 2);
        Check.due("LAST PARTS", x.ran(3), 1);
        Check.due("LAST after a failure", x.run(x.guard(zero, 1 << OWN, -1, add)), ZERO);
        Check.due("LAST done", x.register(3), 3);
        Check.due("LAST after a failed handler", x.run(x.guard(zero, -1, own, add)), OWN);
        Check.due("LAST done", x.register(3), 4);
        Check.due("LAST fails after END", x.run(x.guard(one, -1, -1, own)), OWN);
        Check.due("nothing LOST", x.ran(4), 0);
        Check.due("LAST PARTS", x.ran(3), 1);
        Check.due("LAST fails after a failure", x.run(x.guard(zero, 0, -1, own)), OWN);
        Check.due("LOST", x.ran(4), 1);
        Check.due("LAST fails after one taken", x.run(x.guard(zero, -1, -1, own)), OWN);
        Check.due("nothing LOST", x.ran(4), 0);
        Check.due("LAST fails by the same", x.run(x.guard(own, 0, -1, own)), OWN);
        Check.due("LOST all the same", x.ran(4), 1);
        Check.due("LAST fails, not taken by its GUARD", x.run(x.guard(own, -1, add, zero)), ZERO);
    }

    private static void ranCounts() {
        ThrowReports x = new ThrowReports();
        for (int what = 0; what < 5; what++) {
            Check.due("ran(" + what + ") at first", x.ran(what), 0);
        }
        Check.due("ran(5) at first", x.ran(5), -1);
        int make = x.act(MAKE, 0, 1, 3, 0);
        int three = x.act(NUMBER, 7, 3, 0, 0);
        int copy = x.act(COPY, 0, 0, 0, 0);
        int own = x.act(FAIL, 0, 0, 0, 0);
        int zero = x.act(DIVIDE, 1, 1, 1, 0);
        int first = x.both(x.both(make, three), x.both(copy, copy));
        int inner = x.guard(own, 0, -1, zero);
        int outer = x.guard(x.both(first, inner), 0, -1, own);
        Check.due("run", x.run(outer), OWN);
        Check.due("begun", x.ran(0), 7);
        Check.due("failed", x.ran(1), 3);
        Check.due("came", x.ran(2), 6);
        Check.due("LAST PARTS", x.ran(3), 2);
        Check.due("LOST", x.ran(4), 2);
        Check.due("latest", x.ran(5), own);
        Check.due("run", x.run(x.guard(zero, -1, three, -1)), 0);
        Check.due("begun", x.ran(0), 2);
        Check.due("failed", x.ran(1), 1);
        Check.due("came", x.ran(2), 0);
        Check.due("LAST PARTS", x.ran(3), 0);
        Check.due("LOST", x.ran(4), 0);
        Check.due("latest", x.ran(5), zero);
        Check.due("run", x.run(three), 0);
        Check.due("failed", x.ran(1), 0);
        Check.due("none did", x.ran(5), -1);
        for (int wrong : new int[] {MIN, -1, 6, 99, MAX}) {
            Check.due("ran(" + wrong + ")", x.ran(wrong), BAD);
        }
    }

    private static void refusedRuns() {
        ThrowReports x = new ThrowReports();
        x.act(FAIL, 0, 0, 0, 0);
        x.run(0);
        for (int wrong : new int[] {MIN, -1, 1, 80, MAX}) {
            Check.due("run(" + wrong + ")", x.run(wrong), BAD);
        }
        Check.due("ran as before", x.ran(0), 1);
        Check.due("ran as before", x.ran(5), 0);
    }

    private static void clears() {
        ThrowReports x = oneOfEach();
        Check.due("FAIL", does(x, FAIL, 0, 0, 0), OWN);
        does(x, NUMBER, 7, 3, 0);
        does(x, NUMBER, 0, 44, 0);
        does(x, SET, 1, 1, 0, 0);
        x.given(3, 9);
        int node = x.act(FAIL, 0, 0, 0, 0);
        x.run(node);
        x.report(node);
        Check.due("clear", x.clear(), 9);
        for (int slot = 0; slot < 12; slot++) {
            Check.due("SLOT", x.slot(slot, 0) + x.slot(slot, 1) + x.slot(slot, 2), 0);
        }
        for (int r = 0; r < 8; r++) {
            Check.due("REGISTER", x.register(r), 0);
        }
        Check.due("THINGS", x.count(0), 0);
        Check.due("items", x.count(1), 0);
        Check.due("NODES stay", x.count(2), 1);
        Check.due("what ran stays", x.ran(1), 1);
        Check.due("REPORT stays", x.reached(node), 1);
        Check.due("START stays", x.given(3, 1), 9);
        Check.due("clear again", x.clear(), 0);
        does(x, MAKE, 5, 3, 4);
        Check.due("numbered anew", x.slot(5, 0), 1);
        Check.due("0 at first again", x.item(5, 0), 0);
    }

    private static void looks() {
        ThrowReports x = oneOfEach();
        for (int wrong : new int[] {MIN, -1, 12, 99, MAX}) {
            Check.due("slot(" + wrong + ", 0)", x.slot(wrong, 0), BAD);
            Check.due("item(" + wrong + ", 0)", x.item(wrong, 0), 0);
            Check.due("register(" + wrong + ")", x.register(wrong == 12 ? 8 : wrong), 0);
        }
        for (int wrong : new int[] {MIN, -1, 3, 99, MAX}) {
            Check.due("slot(1, " + wrong + ")", x.slot(1, wrong), BAD);
            Check.due("item(1, " + wrong + ")", x.item(1, wrong), 0);
            Check.due("item(8, " + wrong + ")", x.item(8, wrong), 0);
        }
        does(x, NUMBER, 0, 44, 0);
        does(x, SET, 1, 1, 0, 0);
        Check.due("item of a row", x.item(1, 0), 44);
        Check.due("item of a FIGURE", x.item(8, 0), 0);
        Check.due("item of a ROUND", x.item(9, 0), 0);
        Check.due("item of NOTHING", x.item(0, 0), 0);
        does(x, LAY, 5, 5, 2, 1);
        Check.due("item of a row of rows", x.item(5, 2), 1);
        for (int r = 0; r < 8; r++) {
            does(x, NUMBER, r, r - 4, 0);
        }
        for (int r = 0; r < 8; r++) {
            Check.due("REGISTER " + r, x.register(r), r - 4);
        }
    }

    private static void likeness() {
        ThrowReports x = oneOfEach();
        for (int one = 0; one < 12; one++) {
            for (int other = 0; other < 12; other++) {
                boolean none = (one == 0 || one > 9) && (other == 0 || other > 9);
                Check.due("alike(" + one + ", " + other + ")", x.alike(one, other), one == other || none ? 1 : 0);
            }
        }
        for (int wrong : new int[] {MIN, -1, 12, 99, MAX}) {
            Check.due("alike(" + wrong + ", 0)", x.alike(wrong, 0), BAD);
            Check.due("alike(0, " + wrong + ")", x.alike(0, wrong), BAD);
        }
        likeRows();
        likeFigures();
        likeRowsOfRows();
        likeRowsOfFigures();
    }

    private static void likeRows() {
        for (int kind = 1; kind <= 4; kind++) {
            ThrowReports x = new ThrowReports();
            does(x, MAKE, 0, kind, 3);
            does(x, MAKE, 1, kind, 3);
            does(x, MAKE, 2, kind, 2);
            Check.due("rows", x.alike(0, 1), 2);
            Check.due("rows of other lengths", x.alike(0, 2), 0);
            Check.due("rows of other lengths", x.alike(2, 0), 0);
            does(x, NUMBER, 0, 1, 0);
            does(x, SET, 1, kind, 2, 0);
            Check.due("rows with another item", x.alike(0, 1), 0);
            does(x, SET, 0, kind, 2, 0);
            Check.due("rows", x.alike(0, 1), 2);
            does(x, SET, 0, kind, 0, 0);
            Check.due("rows with another first item", x.alike(0, 1), 0);
            does(x, MAKE, 3, kind, 0);
            does(x, MAKE, 4, kind, 0);
            does(x, MAKE, 5, kind == 1 ? 2 : 1, 0);
            Check.due("empty rows", x.alike(3, 4), 2);
            Check.due("empty rows of two KINDS", x.alike(3, 5), 0);
        }
    }

    private static void likeFigures() {
        ThrowReports x = new ThrowReports();
        does(x, FIGURE, 0, 0, 5);
        does(x, FIGURE, 1, 0, 5);
        does(x, FIGURE, 2, 0, 6);
        does(x, FIGURE, 3, 1, 5);
        does(x, FIGURE, 4, 7, 5);
        Check.due("FIGURES", x.alike(0, 1), 2);
        Check.due("FIGURES with other NUMBERS", x.alike(0, 2), 0);
        Check.due("a FIGURE and a ROUND", x.alike(0, 3), 0);
        Check.due("ROUNDS", x.alike(3, 4), 2);
        does(x, FIGURE, 5, 0, 0);
        Check.due("a FIGURE and NOTHING", x.alike(5, 6), 0);
        Check.due("NOTHING and a FIGURE", x.alike(6, 5), 0);
    }

    private static void likeRowsOfRows() {
        ThrowReports x = new ThrowReports();
        does(x, DEEP, 0, 2, 2);
        does(x, DEEP, 1, 2, 2);
        Check.due("rows of rows", x.alike(0, 1), 2);
        does(x, TAKE, 2, 0, 5, 1);
        does(x, NUMBER, 0, 1, 0);
        does(x, SET, 2, 1, 1, 0);
        Check.due("another item in a row", x.alike(0, 1), 0);
        does(x, LAY, 1, 5, 1, 2);
        Check.due("the same row in both", x.alike(0, 1), 2);
        does(x, LAY, 1, 5, 0, 5);
        Check.due("NOTHING in one", x.alike(0, 1), 0);
        Check.due("NOTHING in one", x.alike(1, 0), 0);
        does(x, LAY, 0, 5, 0, 5);
        Check.due("NOTHING in both", x.alike(0, 1), 2);
        does(x, MAKE, 6, 1, 0);
        does(x, LAY, 0, 5, 0, 6);
        Check.due("an empty row and NOTHING", x.alike(0, 1), 0);
        Check.due("NOTHING and an empty row", x.alike(1, 0), 0);
        does(x, MAKE, 7, 1, 1);
        does(x, LAY, 1, 5, 0, 7);
        Check.due("rows of two lengths in them", x.alike(0, 1), 0);
        Check.due("rows of two lengths in them", x.alike(1, 0), 0);
    }

    private static void likeRowsOfFigures() {
        for (int kind = 6; kind <= 7; kind++) {
            ThrowReports x = new ThrowReports();
            does(x, MAKE, 0, kind, 2);
            does(x, MAKE, 1, kind, 2);
            does(x, MAKE, 2, 13 - kind, 2);
            Check.due("rows of NOTHING", x.alike(0, 1), 2);
            Check.due("rows of two KINDS", x.alike(0, 2), 0);
            does(x, FIGURE, 3, 1, 5);
            does(x, FIGURE, 4, 1, 5);
            does(x, LAY, 0, kind, 1, 3);
            Check.due("NOTHING in one", x.alike(0, 1), 0);
            does(x, LAY, 1, kind, 1, 4);
            Check.due("FIGURES alike", x.alike(3, 4), 2);
            Check.due("but not the same", x.alike(0, 1), 0);
            does(x, LAY, 1, kind, 1, 3);
            Check.due("the same", x.alike(0, 1), 2);
        }
    }
}

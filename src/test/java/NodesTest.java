/** Promises 1 to 6 and 10: a new object, and how NODES are made, counted, refused and forgotten. */
public final class NodesTest {
    private static final int BAD = ThrowReports.BAD, FULL = ThrowReports.FULL;
    private static final int MIN = Integer.MIN_VALUE, MAX = Integer.MAX_VALUE;

    // What a number of an ACT may be: any, a SLOT, a REGISTER, or one of some KINDS.
    private static final String ANY = null, SLOT = "0 1 2 3 4 5 6 7 8 9 10 11", REGISTER = "0 1 2 3 4 5 6 7";
    private static final String NUMBERS = "1 2 3 4", OTHERS = "5 6 7";
    private static final String[][] FORMS = {
        {SLOT, "1 2 3 4 6 7", ANY, ANY}, {SLOT, ANY, ANY, ANY}, {SLOT, ANY, ANY, ANY}, {SLOT, ANY, ANY, ANY},
        {SLOT, SLOT, "0 1 2 3 4 5 6 7 8 9", ANY}, {REGISTER, SLOT, NUMBERS, ANY}, {SLOT, NUMBERS, ANY, REGISTER},
        {SLOT, SLOT, OTHERS, ANY}, {SLOT, OTHERS, ANY, SLOT}, {REGISTER, SLOT, "1 2 3 4 5 6 7", ANY},
        {SLOT, SLOT, ANY, ANY}, {REGISTER, SLOT, ANY, ANY}, {SLOT, ANY, SLOT, ANY}, {REGISTER, ANY, ANY, ANY},
        {REGISTER, REGISTER, REGISTER, ANY}, {REGISTER, REGISTER, REGISTER, ANY}, {REGISTER, REGISTER, REGISTER, ANY},
        {ANY, ANY, ANY, ANY}};
    private static final int[] TRIED = {MIN, MIN + 1, -33, -32, -31, -2, -1, 0, 1, 2, 3, 4, 5, 6, 7, 8, 9, 10, 11, 12, 13,
        31, 32, 33, 39, 40, 63, 64, 65, 99, 1023, 1024, MAX};

    public static void main(String[] args) {
        newObject();
        constants();
        numbersOfActs();
        opsOfActs();
        fullOfActs();
        bothNodes();
        choiceNodes();
        guardNodes();
        costs();
        fullByCost();
        badBeforeFull();
        forgetting();
        counting();
        Check.end();
    }

    private static void newObject() {
        ThrowReports x = new ThrowReports();
        for (int slot = 0; slot < 12; slot++) {
            for (int what = 0; what < 3; what++) {
                Check.due("new: slot(" + slot + ", " + what + ")", x.slot(slot, what), 0);
            }
            Check.due("new: item(" + slot + ", 0)", x.item(slot, 0), 0);
            Check.due("new: alike(0, " + slot + ")", x.alike(0, slot), 1);
        }
        for (int r = 0; r < 8; r++) {
            Check.due("new: register(" + r + ")", x.register(r), 0);
        }
        for (int what = 0; what < 4; what++) {
            Check.due("new: count(" + what + ")", x.count(what), 0);
        }
        Check.due("new: ran(5)", x.ran(5), -1);
        for (int slot = 0; slot < 12; slot++) {
            Check.due("new: START of " + slot, x.given(slot, 2), 1);
        }
        x.act(17, 0, 0, 0, 0);
        x.guard(0, -1, -1, -1);
        Check.due("no report: reached", x.reached(0), 0);
        Check.due("no report: may", x.may(0), 0);
        Check.due("no report: ahead", x.ahead(0, 0), 0);
        Check.due("no report: vain", x.guarded(1, 0), 0);
        Check.due("no report: lost", x.guarded(1, 1), 0);
    }

    private static void constants() {
        Check.due("BAD", BAD, -1);
        Check.due("FULL", FULL, -2);
    }

    private static boolean fits(String form, int value) {
        return form == null || (" " + form + " ").contains(" " + value + " ");
    }

    private static void numbersOfActs() {
        for (int op = 0; op < FORMS.length; op++) {
            for (int place = 0; place < 4; place++) {
                for (int value : TRIED) {
                    int[] n = new int[4];
                    for (int i = 0; i < 4; i++) {
                        n[i] = FORMS[op][i] == null ? 0 : FORMS[op][i].charAt(0) - '0';
                    }
                    n[place] = value;
                    ThrowReports x = new ThrowReports();
                    int want = fits(FORMS[op][place], value) ? 0 : BAD;
                    String call = "act(" + op + ", " + n[0] + ", " + n[1] + ", " + n[2] + ", " + n[3] + ")";
                    Check.due(call, x.act(op, n[0], n[1], n[2], n[3]), want);
                    Check.due("NODES after " + call, x.count(2), want == 0 ? 1 : 0);
                }
            }
        }
    }

    private static void opsOfActs() {
        ThrowReports x = new ThrowReports();
        for (int op : TRIED) {
            if (op < 0 || op > 17) {
                Check.due("op " + op, x.act(op, 1, 1, 1, 1), BAD);
            }
        }
        Check.due("op 18", x.act(18, 1, 1, 1, 1), BAD);
        for (int op = 0; op < 18; op++) {
            Check.due("op " + op, x.act(op, 1, op == 8 ? 5 : 1, op == 7 ? 5 : 1, 1), op);
        }
    }

    private static void fullOfActs() {
        ThrowReports x = new ThrowReports();
        for (int i = 0; i < 80; i++) {
            Check.due("act " + i, x.act(17, 0, 0, 0, 0), i);
        }
        Check.due("act 81", x.act(17, 0, 0, 0, 0), FULL);
        Check.due("both of 80", x.both(0, 79), FULL);
        Check.due("choice of 80", x.choice(0, 0, 0, 79), FULL);
        Check.due("guard of 80", x.guard(0, 0, -1, -1), FULL);
        Check.due("NODES", x.count(2), 80);
        Check.due("COST", x.count(3), 1);
    }

    private static void badBeforeFull() {
        ThrowReports x = new ThrowReports();
        for (int i = 0; i < 80; i++) {
            x.act(17, 0, 0, 0, 0);
        }
        Check.due("act: bad, then full", x.act(18, 0, 0, 0, 0), BAD);
        Check.due("act: bad, then full", x.act(0, 12, 1, 0, 0), BAD);
        Check.due("both: bad, then full", x.both(0, 80), BAD);
        Check.due("choice: bad, then full", x.choice(0, 10, 0, 0), BAD);
        Check.due("guard: bad, then full", x.guard(0, 0, 80, -1), BAD);
    }

    private static void bothNodes() {
        ThrowReports x = new ThrowReports();
        Check.due("both without NODES", x.both(0, 0), BAD);
        x.act(13, 0, 5, 0, 0);
        x.act(13, 1, 6, 0, 0);
        Check.due("both", x.both(0, 1), 2);
        Check.due("both of one", x.both(2, 2), 3);
        for (int wrong : new int[] {MIN, -2, -1, 4, 80, MAX}) {
            Check.due("both(" + wrong + ", 0)", x.both(wrong, 0), BAD);
            Check.due("both(0, " + wrong + ")", x.both(0, wrong), BAD);
        }
        Check.due("NODES", x.count(2), 4);
        Check.due("run", x.run(2), 0);
        Check.due("first", x.register(0), 5);
        Check.due("second", x.register(1), 6);
    }

    private static void choiceNodes() {
        ThrowReports x = new ThrowReports();
        x.act(13, 0, 5, 0, 0);
        x.act(13, 1, 6, 0, 0);
        for (int kind = 0; kind <= 9; kind++) {
            Check.due("choice of " + kind, x.choice(11 - kind, kind, 0, 1), 2 + kind);
        }
        for (int wrong : new int[] {MIN, -1, 12, 32, MAX}) {
            Check.due("choice SLOT " + wrong, x.choice(wrong, 0, 0, 1), BAD);
            Check.due("choice NODE " + wrong, x.choice(0, 0, wrong, 1), BAD);
            Check.due("choice other " + wrong, x.choice(0, 0, 0, wrong), BAD);
        }
        for (int wrong : new int[] {MIN, -1, 10, 32, MAX}) {
            Check.due("choice KIND " + wrong, x.choice(0, wrong, 0, 1), BAD);
        }
        Check.due("NODES", x.count(2), 12);
    }

    private static void guardNodes() {
        ThrowReports x = new ThrowReports();
        Check.due("guard without NODES", x.guard(0, 0, -1, -1), BAD);
        x.act(17, 0, 0, 0, 0);
        Check.due("guard of a BODY", x.guard(0, 0, -1, -1), 1);
        Check.due("guard of any bits", x.guard(0, MIN, -1, -1), 2);
        Check.due("guard of all", x.guard(0, -1, 1, 2), 3);
        Check.due("COST", x.count(3), 1 + 1 + 2 + 9 * 2);
        for (int wrong : new int[] {MIN, -2, 4, 99, MAX}) {
            Check.due("guard BODY " + wrong, x.guard(wrong, 0, 0, 0), BAD);
            Check.due("guard HANDLER " + wrong, x.guard(0, 0, wrong, 0), BAD);
            Check.due("guard LAST " + wrong, x.guard(0, 0, 0, wrong), BAD);
        }
        Check.due("guard without BODY", x.guard(-1, 0, 0, 0), BAD);
        Check.due("NODES", x.count(2), 4);
        setsOfGuards();
    }

    private static void setsOfGuards() {
        ThrowReports x = new ThrowReports();
        x.act(17, 0, 0, 0, 0);
        x.act(15, 0, 0, 0, 0);
        Check.due("OWN taken", x.run(x.guard(0, 1 << 7, -1, -1)), 0);
        Check.due("OWN taken by all", x.run(x.guard(0, -1, -1, -1)), 0);
        Check.due("OWN not taken", x.run(x.guard(0, ~(1 << 7), -1, -1)), 7);
        Check.due("ZERO not taken", x.run(x.guard(1, 1 << 7, -1, -1)), 6);
        Check.due("ZERO taken", x.run(x.guard(1, 1 << 6, -1, -1)), 0);
        Check.due("bits 7 + 32", x.run(x.guard(0, 1, -1, -1)), 7);
    }

    private static void costs() {
        ThrowReports x = new ThrowReports();
        x.act(17, 0, 0, 0, 0);
        Check.due("COST of an ACT", x.count(3), 1);
        x.both(0, 0);
        Check.due("COST of BOTH", x.count(3), 3);
        x.choice(0, 0, 0, 1);
        Check.due("COST of a CHOICE", x.count(3), 5);
        x.guard(2, 0, -1, -1);
        Check.due("COST of a GUARD", x.count(3), 6);
        x.guard(2, 0, 1, -1);
        Check.due("COST with HANDLER", x.count(3), 9);
        x.guard(2, 0, -1, 1);
        Check.due("COST with LAST", x.count(3), 33);
        x.guard(2, 0, 1, 1);
        Check.due("COST with both", x.count(3), 36);
    }

    private static void fullByCost() {
        ThrowReports x = new ThrowReports();
        x.act(17, 0, 0, 0, 0);
        x.both(0, 0);
        x.both(1, 1);
        x.both(2, 2);
        x.both(3, 3);
        x.both(4, 4);
        Check.due("COST 63", x.count(3), 63);
        Check.due("COST 127", x.both(5, 5), FULL);
        Check.due("COST 95", x.both(5, 4), 6);
        Check.due("COST 97", x.both(6, 0), 7);
        Check.due("COST 101", x.both(7, 1), FULL);
        Check.due("COST 101", x.choice(0, 0, 7, 1), FULL);
        Check.due("COST 101", x.guard(7, 0, 1, -1), FULL);
        Check.due("COST 99", x.choice(0, 0, 7, 0), 8);
        Check.due("COST 100", x.guard(8, 0, -1, -1), 9);
        Check.due("COST 100", x.count(3), 100);
        Check.due("COST 101", x.guard(9, 0, -1, -1), FULL);
        Check.due("COST 101", x.both(8, 0), FULL);
        Check.due("NODES", x.count(2), 10);
        Check.due("latest COST", x.count(3), 100);
        Check.due("COST of nine LAST PARTS", x.guard(6, 0, -1, 0), FULL);
        x.guard(0, 0, -1, -1);
        x.guard(10, 0, -1, -1);
        Check.due("COST 3", x.count(3), 3);
        x.both(11, 11);
        x.choice(0, 0, 12, 11);
        Check.due("COST 11", x.count(3), 11);
        Check.due("COST 101 by a LAST PART", x.guard(0, 0, -1, 13), FULL);
    }

    private static void forgetting() {
        ThrowReports x = new ThrowReports();
        Check.due("forget nothing", x.forget(), 0);
        x.act(3, 2, 0, 7, 0);
        x.act(13, 3, 9, 0, 0);
        x.act(17, 0, 0, 0, 0);
        x.both(0, 1);
        x.both(3, 2);
        x.given(5, 6);
        Check.due("run", x.run(4), 7);
        Check.due("report", x.report(4), 1 << 7 | 1 << 8);
        Check.due("forget", x.forget(), 5);
        Check.due("NODES", x.count(2), 0);
        Check.due("COST", x.count(3), 0);
        Check.due("gone", x.run(0), BAD);
        Check.due("gone", x.reached(0), BAD);
        Check.due("ACTS begun", x.ran(0), 3);
        Check.due("latest that failed", x.ran(5), 2);
        Check.due("SLOT stays", x.slot(2, 2), 7);
        Check.due("REGISTER stays", x.register(3), 9);
        Check.due("START stays", x.given(5, 1), 6);
        Check.due("made anew", x.act(17, 0, 0, 0, 0), 0);
        Check.due("not REACHED", x.reached(0), 0);
        Check.due("MAY nothing", x.may(0), 0);
        Check.due("AHEAD nothing", x.ahead(0, 0), 0);
        Check.due("forget again", x.forget(), 1);
        for (int i = 0; i < 80; i++) {
            Check.due("act " + i, x.act(17, 0, 0, 0, 0), i);
        }
    }

    private static void counting() {
        ThrowReports x = new ThrowReports();
        x.act(1, 0, 3, 4, 0);
        x.act(3, 1, 0, 4, 0);
        x.run(0);
        x.run(1);
        Check.due("THINGS", x.count(0), 5);
        Check.due("items", x.count(1), 15);
        Check.due("NODES", x.count(2), 2);
        Check.due("COST", x.count(3), 1);
        for (int wrong : new int[] {MIN, -1, 4, 99, MAX}) {
            Check.due("count(" + wrong + ")", x.count(wrong), BAD);
        }
    }
}

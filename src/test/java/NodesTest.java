/** Promises 1 to 6 and 10: a new object, and how NODES are made, counted, refused and forgotten. */
public final class NodesTest extends Words {
    public static void main(String[] args) {
        newObject();
        constants();
        opsOfActs();
        bothNodes();
        choiceNodes();
        guardNodes();
        forgetting();
        counting();
        Check.end();
    }

    private static void newObject() {
        ThrowReports x = new ThrowReports();
        for (int slot = 0; slot < 12; slot++) {
            for (int what = 0; what < 3; what++) {
                Check.due("new: slot(" + slot + ", " + what + ")", x.slot(slot, what), 0);
            }
            Check.due("new: item(" + slot + ", 0)", x.item(slot, 0), 0);
            Check.due("new: alike(0, " + slot + ")", x.alike(0, slot), 1);
        }
        for (int r = 0; r < 8; r++) {
            Check.due("new: register(" + r + ")", x.register(r), 0);
        }
        for (int what = 0; what < 4; what++) {
            Check.due("new: count(" + what + ")", x.count(what), 0);
        }
        Check.due("new: ran(5)", x.ran(5), -1);
        for (int slot = 0; slot < 12; slot++) {
            Check.due("new: START of " + slot, x.given(slot, 2), 1);
        }
        x.act(17, 0, 0, 0, 0);
        x.guard(0, -1, -1, -1);
        Check.due("no report: reached", x.reached(0), 0);
        Check.due("no report: may", x.may(0), 0);
        Check.due("no report: ahead", x.ahead(0, 0), 0);
        Check.due("no report: vain", x.guarded(1, 0), 0);
        Check.due("no report: lost", x.guarded(1, 1), 0);
    }

    private static void constants() {
        Check.due("BAD", BAD, -1);
        Check.due("FULL", FULL, -2);
    }

    private static void opsOfActs() {
        ThrowReports x = new ThrowReports();
        for (int op : new int[] {MIN, -18, -1, 18, 19, 31, 32, 64, MAX}) {
            Check.due("op " + op, x.act(op, 1, 1, 1, 1), BAD);
        }
        for (int op = 0; op < 18; op++) {
            Check.due("op " + op, x.act(op, 1, op == 8 ? 5 : 1, op == 7 ? 5 : 1, 1), op);
        }
    }

    private static void bothNodes() {
        ThrowReports x = new ThrowReports();
        Check.due("both without NODES", x.both(0, 0), BAD);
        x.act(13, 0, 5, 0, 0);
        x.act(13, 1, 6, 0, 0);
        Check.due("both", x.both(0, 1), 2);
        Check.due("both of one", x.both(2, 2), 3);
        for (int wrong : new int[] {MIN, -2, -1, 4, 80, MAX}) {
            Check.due("both(" + wrong + ", 0)", x.both(wrong, 0), BAD);
            Check.due("both(0, " + wrong + ")", x.both(0, wrong), BAD);
        }
        Check.due("NODES", x.count(2), 4);
        Check.due("run", x.run(2), 0);
        Check.due("first", x.register(0), 5);
        Check.due("second", x.register(1), 6);
    }

    private static void choiceNodes() {
        ThrowReports x = new ThrowReports();
        x.act(13, 0, 5, 0, 0);
        x.act(13, 1, 6, 0, 0);
        for (int kind = 0; kind <= 9; kind++) {
            Check.due("choice of " + kind, x.choice(11 - kind, kind, 0, 1), 2 + kind);
        }
        for (int wrong : new int[] {MIN, -1, 12, 32, MAX}) {
            Check.due("choice SLOT " + wrong, x.choice(wrong, 0, 0, 1), BAD);
            Check.due("choice NODE " + wrong, x.choice(0, 0, wrong, 1), BAD);
            Check.due("choice other " + wrong, x.choice(0, 0, 0, wrong), BAD);
        }
        for (int wrong : new int[] {MIN, -1, 10, 32, MAX}) {
            Check.due("choice KIND " + wrong, x.choice(0, wrong, 0, 1), BAD);
        }
        Check.due("NODES", x.count(2), 12);
    }

    private static void guardNodes() {
        ThrowReports x = new ThrowReports();
        Check.due("guard without NODES", x.guard(0, 0, -1, -1), BAD);
        x.act(17, 0, 0, 0, 0);
        Check.due("guard of a BODY", x.guard(0, 0, -1, -1), 1);
        Check.due("guard of any bits", x.guard(0, MIN, -1, -1), 2);
        Check.due("guard of all", x.guard(0, -1, 1, 2), 3);
        Check.due("COST", x.count(3), 1 + 1 + 2 + 9 * 2);
        for (int wrong : new int[] {MIN, -2, 4, 99, MAX}) {
            Check.due("guard BODY " + wrong, x.guard(wrong, 0, 0, 0), BAD);
            Check.due("guard HANDLER " + wrong, x.guard(0, 0, wrong, 0), BAD);
            Check.due("guard LAST " + wrong, x.guard(0, 0, 0, wrong), BAD);
        }
        Check.due("guard without BODY", x.guard(-1, 0, 0, 0), BAD);
        Check.due("NODES", x.count(2), 4);
        setsOfGuards();
    }

    private static void setsOfGuards() {
        ThrowReports x = new ThrowReports();
        x.act(17, 0, 0, 0, 0);
        x.act(15, 0, 0, 0, 0);
        Check.due("OWN taken", x.run(x.guard(0, 1 << 7, -1, -1)), 0);
        Check.due("OWN taken by all", x.run(x.guard(0, -1, -1, -1)), 0);
        Check.due("OWN not taken", x.run(x.guard(0, ~(1 << 7), -1, -1)), 7);
        Check.due("ZERO not taken", x.run(x.guard(1, 1 << 7, -1, -1)), 6);
        Check.due("ZERO taken", x.run(x.guard(1, 1 << 6, -1, -1)), 0);
        Check.due("bits 7 + 32", x.run(x.guard(0, 1, -1, -1)), 7);
    }

    private static void forgetting() {
        ThrowReports x = new ThrowReports();
        Check.due("forget nothing", x.forget(), 0);
        x.act(3, 2, 0, 7, 0);
        x.act(13, 3, 9, 0, 0);
        x.act(17, 0, 0, 0, 0);
        x.both(0, 1);
        x.both(3, 2);
        x.given(5, 6);
        Check.due("run", x.run(4), 7);
        Check.due("report", x.report(4), 1 << 7 | 1 << 8);
        Check.due("forget", x.forget(), 5);
        Check.due("NODES", x.count(2), 0);
        Check.due("COST", x.count(3), 0);
        Check.due("gone", x.run(0), BAD);
        Check.due("gone", x.reached(0), BAD);
        Check.due("ACTS begun", x.ran(0), 3);
        Check.due("latest that failed", x.ran(5), 2);
        Check.due("SLOT stays", x.slot(2, 2), 7);
        Check.due("REGISTER stays", x.register(3), 9);
        Check.due("START stays", x.given(5, 1), 6);
        Check.due("made anew", x.act(17, 0, 0, 0, 0), 0);
        Check.due("not REACHED", x.reached(0), 0);
        Check.due("MAY nothing", x.may(0), 0);
        Check.due("AHEAD nothing", x.ahead(0, 0), 0);
        Check.due("forget again", x.forget(), 1);
        for (int i = 0; i < 80; i++) {
            Check.due("act " + i, x.act(17, 0, 0, 0, 0), i);
        }
    }

    private static void counting() {
        ThrowReports x = new ThrowReports();
        x.act(1, 0, 3, 4, 0);
        x.act(3, 1, 0, 4, 0);
        x.run(0);
        x.run(1);
        Check.due("THINGS", x.count(0), 5);
        Check.due("items", x.count(1), 15);
        Check.due("NODES", x.count(2), 2);
        Check.due("COST", x.count(3), 1);
        for (int wrong : new int[] {MIN, -1, 4, 99, MAX}) {
            Check.due("count(" + wrong + ")", x.count(wrong), BAD);
        }
    }
}

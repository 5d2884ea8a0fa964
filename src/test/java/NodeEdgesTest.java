/** "==== 3" and promises 2 to 6: how many NODES there are, how they are done, and what GUARDS take. */
public final class NodeEdgesTest extends Words {
    public static void main(String[] args) {
        mostNodes();
        nodesAfterForget();
        costs();
        boths();
        choices();
        guardsTakeTheirSet();
        bitsNotLookedAt();
        noHandler();
        handlersFail();
        lastPartsInAnyCase();
        lastPartsFail();
        firstNodeAsPart();
        nodesUsedTwice();
        Check.end();
    }

    /** One NODE more of NODE 0, in one of four ways. */
    private static int more(ThrowReports x, int way) {
        switch (way) {
            case 0: return x.act(NUMBER, 0, 1, 0, 0);
            case 1: return x.both(0, 0);
            case 2: return x.choice(11, 9, 0, 0);
            default: return x.guard(0, -1, 0, 0);
        }
    }

    private static void mostNodes() {
        Check.by("NODES (80 at most, numbered 0, 1, ..)");
        for (int way = 0; way < 4; way++) {
            ThrowReports x = new ThrowReports();
            Check.due("the first", x.act(NUMBER, 0, 1, 0, 0), 0);
            for (int node = 1; node < 80; node++) {
                Check.due("NODE " + node, more(x, way), node);
                Check.due("NODES", x.count(2), node + 1);
            }
            Check.due("the latest can be done", x.run(79), 0);
            Check.due("the latest can be reported", x.report(79), 1);
            int cost = x.count(3);
            for (int other = 0; other < 4; other++) {
                Check.due("the 81st", more(x, other), FULL);
            }
            Check.due("NODES", x.count(2), 80);
            Check.due("COST of the latest", x.count(3), cost);
            Check.due("no NODE 80", x.run(80), BAD);
            Check.due("NODE 79", x.reached(79), 1);
        }
    }

    private static void nodesAfterForget() {
        Check.by("Promise 6, NODES go, and the REPORT: how many there were.");
        for (int nodes : new int[] {0, 1, 79, 80}) {
            ThrowReports x = new ThrowReports();
            for (int i = 0; i < nodes; i++) {
                x.act(FAIL, 0, 0, 0, 0);
            }
            Check.due("forget", x.forget(), nodes);
            Check.due("forget again", x.forget(), 0);
            Check.due("NODES", x.count(2), 0);
            Check.due("COST without one", x.count(3), 0);
            for (int node = 0; node < 80; node++) {
                Check.due("numbered anew", x.act(NUMBER, 0, node, 0, 0), node);
            }
            Check.due("FULL anew", x.act(NUMBER, 0, 0, 0, 0), FULL);
            Check.due("the new NODE is done", x.run(0), 0);
        }
        ThrowReports x = new ThrowReports();
        x.guard(x.act(FAIL, 0, 0, 0, 0), -1, -1, 0);
        x.report(1);
        Check.due("LOST", x.guarded(1, 1), 0);
        Check.due("forget", x.forget(), 2);
        x.guard(x.act(FAIL, 0, 0, 0, 0), -1, -1, 0);
        for (int node = 0; node < 2; node++) {
            Check.due("no REPORT", x.reached(node) + x.may(node) + x.ahead(node, 0) + x.ahead(node, 11), 0);
        }
        Check.due("no REPORT", x.guarded(1, 0), 0);
        Check.due("no REPORT", x.guarded(1, 1), 0);
    }

    private static void costs() {
        Check.by("The COST of a NODE: 1, and those of all its NODES, that of a LAST PART nine times.");
        ThrowReports x = new ThrowReports();
        Check.due("without a NODE", x.count(3), 0);
        x.act(FAIL, 0, 0, 0, 0);
        Check.due("an ACT", x.count(3), 1);
        x.both(0, 0);
        Check.due("BOTH of one NODE", x.count(3), 3);
        x.both(1, 0);
        Check.due("BOTH", x.count(3), 5);
        x.choice(0, 0, 1, 2);
        Check.due("a CHOICE", x.count(3), 9);
        x.guard(1, 0, -1, -1);
        Check.due("a BODY", x.count(3), 4);
        x.guard(1, 0, 2, -1);
        Check.due("with a HANDLER", x.count(3), 9);
        x.guard(1, 0, -1, 2);
        Check.due("with a LAST PART", x.count(3), 49);
        x.guard(1, 0, 2, 4);
        Check.due("with both", x.count(3), 45);
        Check.due("refused", x.guard(1, 0, -2, -1), BAD);
        Check.due("COST of the latest", x.count(3), 45);
        x.act(FAIL, 0, 0, 0, 0);
        Check.due("an ACT after it", x.count(3), 1);
    }

    private static void boths() {
        Check.by("BOTH: one NODE, then, if it did not fail, another one");
        ThrowReports x = new ThrowReports();
        int five = x.act(NUMBER, 0, 5, 0, 0);
        int six = x.act(NUMBER, 0, 6, 0, 0);
        int own = x.act(FAIL, 0, 0, 0, 0);
        int zero = x.act(DIVIDE, 0, 0, 1, 0);
        Check.due("END, END", x.run(x.both(five, six)), 0);
        Check.due("the second was last", x.register(0), 6);
        Check.due("ACTS begun", x.ran(0), 2);
        Check.due("FAILURE, END", x.run(x.both(own, five)), OWN);
        Check.due("the second was not done", x.register(0), 6);
        Check.due("ACTS begun", x.ran(0), 1);
        Check.due("END, FAILURE", x.run(x.both(five, zero)), ZERO);
        Check.due("the first was done", x.register(0), 5);
        Check.due("FAILURE, FAILURE", x.run(x.both(zero, own)), ZERO);
        Check.due("one failed", x.ran(1), 1);
        Check.due("the latest that failed", x.ran(5), zero);
    }

    private static void choices() {
        Check.by("a CHOICE: one NODE, if SLOT s holds a THING that IS of KIND k (k = 0: NOTHING), else another one");
        for (int held = 0; held <= 9; held++) {
            for (int kind = 0; kind <= 9; kind++) {
                ThrowReports x = oneOfEach();
                int own = x.act(FAIL, 0, 0, 0, 0);
                int zero = x.act(DIVIDE, 0, 0, 1, 0);
                boolean one = kind == 0 ? held == 0 : held != 0 && is(held, kind);
                Check.due(held + " by " + kind, x.run(x.choice(held, kind, own, zero)), one ? OWN : ZERO);
                Check.due("ACTS begun", x.ran(0), 1);
            }
        }
    }

    /** An ACT more that fails by a FAILURE, in an object made by oneOfEach(). */
    private static int failing(ThrowReports x, int failure) {
        switch (failure) {
            case NOTHING: return x.act(TELLS, 0, 0, 0, 0);
            case UNLIKE: return x.act(MOVE, 11, 1, 2, 0);
            case PLACE: return x.act(GET, 0, 1, 1, 3);
            case SIZE: return x.act(MAKE, 11, 1, -1, 0);
            case STORE: return x.act(COPY, 1, 0, 2, 0);
            case ZERO: return x.act(REST, 0, 0, 0, 0);
            case OWN: return x.act(FAIL, 0, 0, 0, 0);
            default: return x.act(MAKE, 11, 1, 3001, 0);
        }
    }

    private static void guardsTakeTheirSet() {
        Check.by("if that fails by a FAILURE of its set (bit k: FAILURE k), its HANDLER");
        for (int failure = NOTHING; failure <= ROOM; failure++) {
            ThrowReports x = oneOfEach();
            int body = failing(x, failure);
            int handler = x.act(NUMBER, 1, 77, 0, 0);
            Check.due("alone", x.run(body), failure);
            for (int taken = NOTHING; taken <= ROOM; taken++) {
                Check.due("FAILURE " + failure + ", taken is " + taken, x.run(x.guard(body, 1 << taken, handler, -1)),
                    taken == failure ? 0 : failure);
                Check.due("the HANDLER is done", x.register(1), taken >= failure ? 77 : 0);
                Check.due("taken are all but " + taken, x.run(x.guard(body, ~(1 << taken), -1, -1)), taken == failure ? failure : 0);
            }
            Check.due("taken is none", x.run(x.guard(body, 0, handler, -1)), failure);
            Check.due("taken are all", x.run(x.guard(body, set(1, 2, 3, 4, 5, 6, 7, 8), handler, -1)), 0);
            Check.due("ACTS that failed", x.ran(1), 1);
            Check.due("the latest that failed", x.ran(5), body);
        }
    }

    private static void bitsNotLookedAt() {
        Check.by("Promise 5, set: other bits than 1 to 8 are not looked at");
        int others = ~set(1, 2, 3, 4, 5, 6, 7, 8);
        for (int failure = NOTHING; failure <= ROOM; failure++) {
            ThrowReports x = oneOfEach();
            int body = failing(x, failure);
            int quiet = x.act(NUMBER, 1, 1, 0, 0);
            int own = x.act(FAIL, 0, 0, 0, 0);
            Check.due("the other bits", x.run(x.guard(body, others, -1, -1)), failure);
            Check.due("the other bits and this one", x.run(x.guard(body, others | 1 << failure, -1, -1)), 0);
            Check.due("this bit 8 higher", x.run(x.guard(body, 1 << failure + 8, -1, -1)), failure);
            Check.due("bit 0: an END is no FAILURE", x.run(x.guard(quiet, 1, own, -1)), 0);
            Check.due("all bits: an END is no FAILURE", x.run(x.guard(quiet, -1, own, -1)), 0);
            x.report(x.guard(body, others, -1, -1));
            Check.due("VAIN of the other bits", x.guarded(x.count(2) - 1, 0), 0);
            x.report(x.guard(quiet, -1, own, -1));
            Check.due("VAIN of all bits", x.guarded(x.count(2) - 1, 0), set(1, 2, 3, 4, 5, 6, 7, 8));
            Check.due("the HANDLER", x.reached(own), 0);
        }
    }

    private static void noHandler() {
        Check.by("what fails then is what that fails by (without one nothing)");
        for (int failure = NOTHING; failure <= ROOM; failure++) {
            ThrowReports x = oneOfEach();
            int body = failing(x, failure);
            Check.due("without a HANDLER", x.run(x.guard(body, 1 << failure, -1, -1)), 0);
            Check.due("ACTS that failed", x.ran(1), 1);
            Check.due("without a HANDLER, not taken", x.run(x.guard(body, 0, -1, -1)), failure);
        }
    }

    private static void handlersFail() {
        Check.by("what fails then is what that fails by");
        for (int failure = NOTHING; failure <= ROOM; failure++) {
            for (int by = NOTHING; by <= ROOM; by++) {
                ThrowReports x = oneOfEach();
                int body = failing(x, failure);
                int handler = failing(x, by);
                Check.due("HANDLER", x.run(x.guard(body, -1, handler, -1)), by);
                Check.due("ACTS that failed", x.ran(1), 2);
                Check.due("the latest that failed", x.ran(5), handler);
                Check.due("none is LOST", x.ran(4), 0);
                Check.due("not taken", x.run(x.guard(body, ~(1 << failure), handler, -1)), failure);
                Check.due("ACTS that failed", x.ran(1), 1);
            }
        }
    }

    private static void lastPartsInAnyCase() {
        Check.by("then in any case its LAST PART, if it has one");
        ThrowReports x = new ThrowReports();
        int quiet = x.act(NUMBER, 1, 1, 0, 0);
        int own = x.act(FAIL, 0, 0, 0, 0);
        int zero = x.act(DIVIDE, 0, 0, 0, 0);
        int last = x.act(ADD, 2, 2, 1, 0);
        x.run(quiet);
        lastPartIsDone(x, "BODY ends", x.guard(quiet, -1, own, last), 0);
        lastPartIsDone(x, "BODY fails", x.guard(own, 0, zero, last), OWN);
        lastPartIsDone(x, "BODY fails, taken", x.guard(own, -1, -1, last), 0);
        lastPartIsDone(x, "HANDLER ends", x.guard(own, -1, quiet, last), 0);
        lastPartIsDone(x, "HANDLER fails", x.guard(own, -1, zero, last), ZERO);
        long done = x.register(2);
        Check.due("without a LAST PART", x.run(x.guard(own, -1, zero, -1)), ZERO);
        Check.due("LAST PARTS begun", x.ran(3), 0);
        Check.due("not done", x.register(2), done);
    }

    private static void lastPartIsDone(ThrowReports x, String what, int guard, int want) {
        long before = x.register(2);
        Check.due(what, x.run(guard), want);
        Check.due(what + ": LAST PART done", x.register(2), before + 1);
        Check.due(what + ": LAST PARTS begun", x.ran(3), 1);
        Check.due(what + ": LOST", x.ran(4), 0);
    }

    private static void lastPartsFail() {
        Check.by("if that fails, this is what fails, and what failed before is LOST");
        for (int failure = NOTHING; failure <= ROOM; failure++) {
            for (int by = NOTHING; by <= ROOM; by++) {
                ThrowReports x = oneOfEach();
                int body = failing(x, failure);
                int last = failing(x, by);
                int quiet = x.act(NUMBER, 1, 1, 0, 0);
                lastPartFails(x, "BODY ends", x.guard(quiet, -1, -1, last), by, 0);
                lastPartFails(x, "BODY fails", x.guard(body, 0, -1, last), by, 1);
                lastPartFails(x, "BODY fails, taken", x.guard(body, -1, -1, last), by, 0);
                lastPartFails(x, "HANDLER ends", x.guard(body, -1, quiet, last), by, 0);
                lastPartFails(x, "HANDLER fails", x.guard(body, -1, body, last), by, 1);
                int twice = x.guard(x.guard(body, 0, -1, last), 0, -1, body);
                Check.due("twice", x.run(twice), failure);
                Check.due("LAST PARTS begun", x.ran(3), 2);
                Check.due("LOST", x.ran(4), 2);
            }
        }
    }

    private static void lastPartFails(ThrowReports x, String what, int guard, int want, int lost) {
        Check.due(what + ", its LAST PART fails", x.run(guard), want);
        Check.due(what + ": LAST PARTS begun", x.ran(3), 1);
        Check.due(what + ": LOST", x.ran(4), lost);
    }

    private static void firstNodeAsPart() {
        Check.by("Promise 5, handler, last: -1: none.");
        ThrowReports x = new ThrowReports();
        int own = x.act(FAIL, 0, 0, 0, 0);
        int zero = x.act(DIVIDE, 0, 0, 0, 0);
        Check.due("NODE 0 as HANDLER", x.run(x.guard(zero, -1, own, -1)), OWN);
        Check.due("NODE 0 as LAST PART", x.run(x.guard(zero, -1, -1, own)), OWN);
        Check.due("LAST PARTS begun", x.ran(3), 1);
        Check.due("neither", x.run(x.guard(zero, -1, -1, -1)), 0);
        Check.due("LAST PARTS begun", x.ran(3), 0);
        Check.due("COST of neither", x.count(3), 2);
    }

    private static void nodesUsedTwice() {
        Check.by("a GUARD: its BODY; .. its HANDLER; .. its LAST PART");
        ThrowReports x = new ThrowReports();
        int own = x.act(FAIL, 0, 0, 0, 0);
        int guard = x.guard(own, -1, own, own);
        Check.due("one NODE as all parts", x.run(guard), OWN);
        Check.due("ACTS begun", x.ran(0), 3);
        Check.due("ACTS that failed", x.ran(1), 3);
        Check.due("LAST PARTS begun", x.ran(3), 1);
        Check.due("LOST", x.ran(4), 1);
    }
}

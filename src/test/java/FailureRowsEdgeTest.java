import java.util.function.Consumer;

/** The edges that the table of RUNNING names, row by row; TORN is FailureEdgeTest's and PowerEdgeTest's. */
final class FailureRowsEdgeTest extends Support {
    private static final int RETURNED = TearSafeCard.RETURNED;
    private static final int WALL = TearSafeCard.WALL;
    private static final int BOUNDS = TearSafeCard.BOUNDS;

    public static void main(String[] args) {
        steps();
        stepsFirst();
        stepsOfThisRun();
        nullReferences();
        wall();
        wallOfShare();
        wallOfCall();
        indexes();
        lengths();
        absent();
        absentBeforeWall();
        depth();
        memory();
        beginInATransaction();
        withoutATransaction();
        end();
    }

    private static TearSafeCard card() {
        return new TearSafeCard(250);
    }

    /**
     * 7 instructions for each round of the argument and 2 more, then pad instructions that go on to the next one, then
     * the tail, and an answer of 0.
     */
    private static int[] late(int pad, int... tail) {
        int[] jumps = new int[2 * pad];
        for (int at = 0; at < pad; at++) {
            jumps[2 * at] = JUMP;
            jumps[2 * at + 1] = 8 + at;
        }
        int[] rounds = {LOAD, 0, JZERO, 7, LOAD, 0, PUSH, 1, SUB, 0, STORE, 0, JUMP, 0};
        return join(rounds, jumps, tail, code(PUSH, 0, RETURN, 0));
    }

    private static void steps() {
        sentence("STEPS as many instructions have been executed in this run as LIMIT");
        int[] limits = {20, 21, 22, 26, 27, 100, 249, 250};
        for (int limit : limits) {
            TearSafeCard card = new TearSafeCard(limit);
            int rounds = (limit - 4) / 7;
            int pad = (limit - 4) % 7;
            loadGood(card, 2, 1, true, late(pad));
            dueReturned("exactly " + limit + " instructions", card, 5, rounds, 0);
            loadGood(card, 2, 1, true, late(pad + 1));
            dueFailed("one more than " + limit, card, 5, rounds, TearSafeCard.STEPS, 7 + pad + 2);
            dueReturned("a round less", card, 5, rounds - 1, 0);
        }
    }

    private static void stepsFirst() {
        sentence("(tested before every instruction)");
        twentyFirst("RETURN", RETURNED, late(3));
        twentyFirst("NULL", TearSafeCard.NULL, late(3, NULL, 0, LENGTH, 0));
        twentyFirst("WALL", WALL, late(3, FOREIGN, 2, LENGTH, 0));
        twentyFirst("BOUNDS", BOUNDS, late(3, PUSH, 5, NEW, 0));
        twentyFirst("ABSENT", TearSafeCard.ABSENT, late(3, PUSH, 0, CALL, 5));
        twentyFirst("WALL of CALL", WALL, late(3, PUSH, 0, CALL, 3));
        twentyFirst("NESTING", TearSafeCard.NESTING, late(4, COMMIT, 0));
        stepsBefore("TORN", TearSafeCard.TORN, 0, 2, 11, card -> {
            loadGood(card, 0, 0, true, late(3, NULL, 0, SETROOT, 0));
            card.tear(0);
        });
        stepsBefore("MEMORY", TearSafeCard.MEMORY, 1, 1, 12, card -> {
            fillRoots(card);
            loadGood(card, 0, 1, true, PUSH, 1, NEW, 1, PUSH, 1, NEW, 1, LOAD, 0, CALL, 0, RETURN, 0);
            loadGood(card, 0, 0, true, late(4, PUSH, 1, NEW, 1));
        });
        stepsBefore("DEPTH", TearSafeCard.DEPTH, 1, 1, 12, card -> {
            loadGood(card, 0, 1, true, LOAD, 0, CALL, 2, RETURN, 0);
            loadGood(card, 1, 0, true, LOAD, 0, CALL, 3, RETURN, 0);
            loadGood(card, 1, 1, true, LOAD, 0, CALL, 0, RETURN, 0);
            loadGood(card, 2, 0, true, PUSH, 0, RETURN, 0);
            loadGood(card, 0, 0, true, late(4, PUSH, 0, CALL, 4));
        });
    }

    /** The code's 21st instruction, in the third round, is the one told. */
    private static void twentyFirst(String what, int outcome, int[] code) {
        stepsBefore(what, outcome, 0, 2, 11, card -> {
            loadGood(card, 1, 0, true, PUSH, 1, NEW, 0, SETROOT, 0, PUSH, 0, RETURN, 0);
            dueReturned("an object of applet 1", card, 2, 0, 0);
            loadGood(card, 1, 1, false, PUSH, 0, RETURN, 0);
            loadGood(card, 0, 0, true, code);
        });
    }

    /** With a limit of 20 the 21st instruction, instruction at of method 0, is not executed; with 21 it is. */
    private static void stepsBefore(String what, int outcome, int number, int arg, int at, Consumer<TearSafeCard> prepare) {
        TearSafeCard card = new TearSafeCard(20);
        prepare.accept(card);
        dueRun("STEPS before " + what, card, number, arg, TearSafeCard.STEPS, 0, at);
        card = new TearSafeCard(21);
        prepare.accept(card);
        dueRun(what + " with room for it", card, number, arg, outcome, 0, outcome == RETURNED ? -1 : at);
    }

    private static void stepsOfThisRun() {
        sentence("executed in this run");
        TearSafeCard card = new TearSafeCard(20);
        loadGood(card, 1, 0, true, LOAD, 0, PUSH, 1, ADD, 0, RETURN, 0);
        loadGood(card, 0, 0, true, LOAD, 0, CALL, 2, CALL, 2, CALL, 2, BEGIN, 0, ABORT, 0, BEGIN, 0, RETURN, 0);
        for (int time = 0; time < 3; time++) {
            dueReturned("20 with those of called methods, in each run anew", card, 0, 4, 7);
        }
        loadGood(card, 0, 0, true, LOAD, 0, CALL, 2, CALL, 2, CALL, 2, BEGIN, 0, ABORT, 0, BEGIN, 0, ABORT, 0, RETURN, 0);
        dueFailed("21 with those of called methods", card, 0, 4, TearSafeCard.STEPS, 8);
        loadGood(card, 0, 0, true, LOAD, 0, CALL, 2, CALL, 2, CALL, 2, CALL, 2, RETURN, 0);
        dueRun("the 21st is a called method's", card, 0, 4, TearSafeCard.STEPS, 0, 32 + 3);
    }

    private static void nullReferences() {
        sentence("NULL GET, PUT, SHARE, LENGTH with a null reference");
        int[][] nulls = {{NULL, 0}, {ROOT, 0}, {ROOT, 1}, {FOREIGN, 0}, {FOREIGN, 5}};
        for (int[] from : nulls) {
            String what = " of a null reference from op " + from[0];
            TearSafeCard card = card();
            loadGood(card, 0, 0, true, join(from, code(PUSH, 0, GET, 0, RETURN, 0)));
            dueFailed("GET" + what, card, 0, 0, TearSafeCard.NULL, 2);
            loadGood(card, 0, 0, true, join(from, code(PUSH, 0, PUSH, 0, PUT, 0, JUMP, 4)));
            dueFailed("PUT" + what, card, 0, 0, TearSafeCard.NULL, 3);
            loadGood(card, 0, 0, true, join(from, code(SHARE, 0, JUMP, 2)));
            dueFailed("SHARE" + what, card, 0, 0, TearSafeCard.NULL, 1);
            loadGood(card, 0, 0, true, join(from, code(LENGTH, 0, RETURN, 0)));
            dueFailed("LENGTH" + what, card, 0, 0, TearSafeCard.NULL, 1);
            loadGood(card, 0, 0, true, join(from, code(DUP, 0, STORE, 1, DUP, 0, DROP, 0, SETROOT, 0, LOAD, 0, RETURN, 0)));
            dueReturned("DUP, STORE, DROP, SETROOT" + what, card, 0, 3, 3);
        }
    }

    private static void wall() {
        sentence("WALL GET, PUT, LENGTH on an object that is private and of another applet than the one whose method runs");
        for (int owner = 0; owner < 3; owner++) {
            for (int runner = 0; runner < 3; runner++) {
                for (int kind = 0; kind < 4; kind++) {
                    boolean isShared = kind >= 2;
                    TearSafeCard card = cardWithOne(owner, kind % 2, isShared);
                    int outcome = isShared || owner == runner ? RETURNED : WALL;
                    accesses(card, owner, runner, outcome);
                }
            }
        }
        onBehalf();
    }

    /** Root 0 of the owner refers to an object of one element, which is 7. */
    private static TearSafeCard cardWithOne(int owner, int passing, boolean isShared) {
        TearSafeCard card = card();
        loadGood(card, owner, 0, true, PUSH, 1, NEW, passing, DUP, 0, SETROOT, 0, PUSH, 0, PUSH, 7, PUT, 0,
            ROOT, 0, isShared ? SHARE : DROP, 0, PUSH, 0, RETURN, 0);
        dueReturned("an object", card, 2 * owner, 0, 0);
        return card;
    }

    private static void accesses(TearSafeCard card, int owner, int runner, int outcome) {
        String what = " by applet " + runner + " on an object with traits " + card.traits(owner, 0);
        int number = 2 * runner + 1;
        loadGood(card, runner, 1, true, FOREIGN, 2 * owner, PUSH, 0, GET, 0, RETURN, 0);
        dueEnded("GET" + what, card, number, outcome, 7, 2);
        loadGood(card, runner, 1, true, FOREIGN, 2 * owner, LENGTH, 0, RETURN, 0);
        dueEnded("LENGTH" + what, card, number, outcome, 1, 1);
        loadGood(card, runner, 1, true, FOREIGN, 2 * owner, PUSH, 0, PUSH, 8, PUT, 0, PUSH, 2, RETURN, 0);
        dueEnded("PUT" + what, card, number, outcome, 2, 3);
        due("the element", card.element(owner, 0, 0), outcome == RETURNED ? 8 : 7);
    }

    private static void dueEnded(String what, TearSafeCard card, int number, int outcome, int result, int at) {
        if (outcome == RETURNED) {
            dueReturned(what, card, number, 0, result);
        } else {
            dueFailed(what, card, number, 0, outcome, at);
        }
    }

    /** Neither the caller nor the applet that the run began with is asked, but the one whose method runs. */
    private static void onBehalf() {
        TearSafeCard card = cardWithOne(0, 0, false);
        loadGood(card, 0, 1, true, FOREIGN, 0, PUSH, 0, GET, 0, RETURN, 0);
        loadGood(card, 1, 1, true, LOAD, 0, CALL, 1, RETURN, 0);
        dueReturned("the owner's method, called by another's", card, 3, 0, 7);
        loadGood(card, 1, 1, true, FOREIGN, 0, PUSH, 0, GET, 0, RETURN, 0);
        loadGood(card, 0, 1, true, LOAD, 0, CALL, 3, RETURN, 0);
        dueRun("another's method, called by the owner's", card, 1, 0, WALL, 0, 48 + 2);
        loadGood(card, 1, 1, true, LOAD, 0, RETURN, 0);
        loadGood(card, 0, 1, true, LOAD, 0, CALL, 3, FOREIGN, 0, LENGTH, 0, ADD, 0, RETURN, 0);
        dueReturned("the owner's method, after another's has answered", card, 1, 0, 1);
    }

    private static void wallOfShare() {
        sentence("SHARE on an object of another applet");
        for (int owner = 0; owner < 3; owner++) {
            for (int runner = 0; runner < 3; runner++) {
                for (int kind = 0; kind < 4; kind++) {
                    boolean isShared = kind >= 2;
                    TearSafeCard card = cardWithOne(owner, kind % 2, isShared);
                    int traits = card.traits(owner, 0);
                    loadGood(card, runner, 1, true, FOREIGN, 2 * owner, SHARE, 0, PUSH, 2, RETURN, 0);
                    String what = "SHARE by applet " + runner + " on an object with traits " + traits;
                    dueEnded(what, card, 2 * runner + 1, owner == runner ? RETURNED : WALL, 2, 1);
                    int after = owner == runner && !isShared ? traits + 1 : traits;
                    due(what + ": traits after", card.traits(owner, 0), after);
                }
            }
        }
    }

    private static void wallOfCall() {
        sentence("CALL of another applet's method that is not EXPORTED");
        for (int called = 0; called < 6; called++) {
            for (int caller = 0; caller < 6; caller++) {
                if (caller == called) {
                    continue;
                }
                TearSafeCard card = card();
                loadGood(card, caller / 2, caller % 2, false, LOAD, 0, CALL, called, RETURN, 0);
                loadGood(card, called / 2, called % 2, true, PUSH, 33, RETURN, 0);
                dueReturned("method " + called + ", exported, called by " + caller, card, caller, 0, 33);
                loadGood(card, called / 2, called % 2, false, PUSH, 34, RETURN, 0);
                int outcome = caller / 2 == called / 2 ? RETURNED : WALL;
                dueEnded("method " + called + ", not exported, called by " + caller, card, caller, outcome, 34, 1);
            }
        }
    }

    private static void indexes() {
        sentence("BOUNDS GET, PUT with an index that is not 0 .. the length - 1");
        for (int size = 1; size <= 4; size++) {
            TearSafeCard card = card();
            loadGood(card, 0, 0, true, PUSH, size, NEW, 0, SETROOT, 0, PUSH, 0, RETURN, 0);
            dueReturned("an object", card, 0, 0, 0);
            loadGood(card, 0, 0, true, ROOT, 0, LOAD, 0, GET, 0, RETURN, 0);
            loadGood(card, 0, 1, true, ROOT, 0, LOAD, 0, LOAD, 0, PUT, 0, LOAD, 0, RETURN, 0);
            for (int index = 0; index < size; index++) {
                dueReturned("PUT at " + index + " of " + size, card, 1, index, index);
                dueReturned("GET at " + index + " of " + size, card, 0, index, index);
            }
            int[] wrong = {-32768, -4, -1, size, size + 1, 4, 5, 256, 32767};
            for (int index : wrong) {
                dueFailed("GET at " + index + " of " + size, card, 0, index, BOUNDS, 2);
                dueFailed("PUT at " + index + " of " + size, card, 1, index, BOUNDS, 3);
            }
            for (int index = 0; index < size; index++) {
                due("element " + index + " of " + size, card.element(0, 0, index), index);
            }
        }
    }

    private static void lengths() {
        sentence("NEW with a length that is not 1 .. 4");
        for (int passing = 0; passing < 2; passing++) {
            TearSafeCard card = card();
            loadGood(card, 0, 0, true, LOAD, 0, NEW, passing, SETROOT, 0, LOAD, 0, RETURN, 0);
            int[] wrong = {-32768, -1, 0, 5, 6, 256, 32767};
            for (int length : wrong) {
                dueFailed("NEW " + passing + " of " + length, card, 0, length, BOUNDS, 1);
                due("no object", card.held(), 0);
            }
            for (int length = 1; length <= 4; length++) {
                dueReturned("NEW " + passing + " of " + length, card, 0, length, length);
                due("its length", card.length(0, 0), length);
            }
        }
    }

    private static void absent() {
        sentence("ABSENT CALL of a method that is absent");
        for (int called = 0; called < 6; called++) {
            int caller = called == 5 ? 4 : 5;
            TearSafeCard card = card();
            loadGood(card, 2, caller % 2, true, LOAD, 0, CALL, called, RETURN, 0);
            dueFailed("CALL " + called, card, caller, 0, TearSafeCard.ABSENT, 1);
            due("bad code", load(card, called / 2, called % 2, true, DROP, 0), TearSafeCard.BAD);
            dueFailed("CALL " + called + " after bad code", card, caller, 0, TearSafeCard.ABSENT, 1);
            loadGood(card, called / 2, called % 2, true, LOAD, 0, RETURN, 0);
            dueReturned("CALL " + called + " when it is there", card, caller, 3, 3);
        }
    }

    private static void absentBeforeWall() {
        sentence("(tested before WALL)");
        TearSafeCard card = card();
        loadGood(card, 0, 0, true, LOAD, 0, CALL, 2, RETURN, 0);
        dueFailed("another applet's absent method, which is not exported either", card, 0, 0, TearSafeCard.ABSENT, 1);
        due("bad code, not exported", load(card, 1, 0, false, DROP, 0), TearSafeCard.BAD);
        dueFailed("it is still absent", card, 0, 0, TearSafeCard.ABSENT, 1);
        loadGood(card, 1, 0, false, PUSH, 1, RETURN, 0);
        dueFailed("there, but not exported", card, 0, 0, WALL, 1);
    }

    private static void depth() {
        sentence("DEPTH CALL while 4 methods are being run");
        TearSafeCard card = card();
        loadGood(card, 0, 0, true, LOAD, 0, JZERO, 7, LOAD, 0, PUSH, 1, SUB, 0, CALL, 0, RETURN, 0, PUSH, 5, RETURN, 0);
        for (int calls = 0; calls <= 3; calls++) {
            dueReturned(calls + " calls within each other", card, 0, calls, 5);
        }
        dueFailed("a fourth call within them", card, 0, 4, TearSafeCard.DEPTH, 5);
        dueFailed("more", card, 0, 100, TearSafeCard.DEPTH, 5);
        for (int number = 0; number < 5; number++) {
            loadGood(card, number / 2, number % 2, true, LOAD, 0, CALL, number + 1, RETURN, 0);
        }
        loadGood(card, 2, 1, true, PUSH, 6, RETURN, 0);
        dueReturned("four methods of three applets", card, 2, 0, 6);
        dueRun("five methods of three applets", card, 1, 0, TearSafeCard.DEPTH, 0, 16 * 4 + 1);
        loadGood(card, 1, 1, true, LOAD, 0, CALL, 5, CALL, 5, CALL, 5, CALL, 5, CALL, 5, RETURN, 0);
        loadGood(card, 0, 1, true, LOAD, 0, CALL, 2, CALL, 2, RETURN, 0);
        dueReturned("a method that has answered is not being run", card, 1, 0, 6);
        fourFullMethods();
    }

    /** Each method of four has its two locals set and four entries, and finds them when the next one has answered. */
    private static void fourFullMethods() {
        TearSafeCard card = card();
        int[] fill = {PUSH, 11, STORE, 1, PUSH, 1, PUSH, 2, PUSH, 3, LOAD, 0};
        int[] add = {ADD, 0, ADD, 0, ADD, 0, LOAD, 1, ADD, 0, LOAD, 0, ADD, 0, RETURN, 0};
        loadGood(card, 0, 0, true, join(fill, code(CALL, 2), add));
        loadGood(card, 1, 0, true, join(fill, code(CALL, 4), add));
        loadGood(card, 2, 0, true, join(fill, code(CALL, 1), add));
        loadGood(card, 0, 1, true, join(fill, add));
        dueReturned("four full methods", card, 0, 3, 4 * (1 + 2 + 3 + 11 + 3) + 3);
    }

    private static void memory() {
        sentence("MEMORY NEW while 8 objects are HELD (below)");
        for (int passing = 0; passing < 2; passing++) {
            TearSafeCard card = card();
            fillRoots(card);
            loadGood(card, 0, 0, true, PUSH, 1, NEW, passing, PUSH, 2, NEW, passing, LENGTH, 0, RETURN, 0);
            dueReturned("the eighth object", card, 0, 0, 2);
            loadGood(card, 0, 0, true, PUSH, 1, NEW, passing, PUSH, 2, NEW, 1 - passing, PUSH, 3, NEW, passing, LENGTH, 0, RETURN, 0);
            dueFailed("the ninth object", card, 0, 0, TearSafeCard.MEMORY, 5);
            loadGood(card, 0, 0, true, PUSH, 1, NEW, passing, PUSH, 2, NEW, passing, DROP, 0, PUSH, 3, NEW, passing, LENGTH, 0,
                RETURN, 0);
            dueReturned("an eighth object in place of one that is gone", card, 0, 0, 3);
        }
    }

    private static void beginInATransaction() {
        sentence("NESTING BEGIN in a transaction");
        TearSafeCard card = card();
        loadGood(card, 0, 0, true, BEGIN, 0, BEGIN, 0, LOAD, 0, RETURN, 0);
        dueFailed("BEGIN twice", card, 0, 0, TearSafeCard.NESTING, 1);
        dueFailed("and in the next run, where the first is right", card, 0, 0, TearSafeCard.NESTING, 1);
        loadGood(card, 0, 0, true, BEGIN, 0, COMMIT, 0, BEGIN, 0, ABORT, 0, BEGIN, 0, LOAD, 0, RETURN, 0);
        dueReturned("BEGIN after COMMIT and after ABORT", card, 0, 4, 4);
        dueReturned("BEGIN after a run that ended in a transaction", card, 0, 4, 4);
        loadGood(card, 1, 0, true, BEGIN, 0, LOAD, 0, RETURN, 0);
        loadGood(card, 0, 0, true, BEGIN, 0, LOAD, 0, CALL, 2, RETURN, 0);
        dueRun("BEGIN in a called method", card, 0, 0, TearSafeCard.NESTING, 0, 32);
        loadGood(card, 0, 0, true, LOAD, 0, CALL, 2, BEGIN, 0, RETURN, 0);
        dueFailed("BEGIN after a called method's", card, 0, 0, TearSafeCard.NESTING, 2);
    }

    private static void withoutATransaction() {
        sentence("COMMIT, ABORT without one");
        int[] ends = {COMMIT, ABORT};
        for (int op : ends) {
            TearSafeCard card = card();
            loadGood(card, 0, 0, true, op, 0, LOAD, 0, RETURN, 0);
            dueFailed("op " + op + " alone", card, 0, 0, TearSafeCard.NESTING, 0);
            for (int first : ends) {
                loadGood(card, 0, 0, true, BEGIN, 0, first, 0, op, 0, LOAD, 0, RETURN, 0);
                dueFailed("op " + op + " after op " + first, card, 0, 0, TearSafeCard.NESTING, 2);
            }
            loadGood(card, 0, 1, true, BEGIN, 0, LOAD, 0, RETURN, 0);
            dueReturned("a run that ends in a transaction", card, 1, 0, 0);
            loadGood(card, 0, 0, true, op, 0, LOAD, 0, RETURN, 0);
            dueFailed("op " + op + " in the run after it", card, 0, 0, TearSafeCard.NESTING, 0);
            loadGood(card, 0, 0, true, LOAD, 0, CALL, 1, op, 0, RETURN, 0);
            dueReturned("op " + op + " after a called method's BEGIN", card, 0, 5, 5);
        }
    }
}

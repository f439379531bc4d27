/** Promises 4, 5 and 6: run, result and place; what the instructions do and how a run fails. */
final class RunTest extends Support {
    public static void main(String[] args) {
        outOfRangeAndAbsent();
        argument();
        arithmetic();
        localsAndStack();
        jumps();
        calls();
        depth();
        steps();
        nulls();
        bounds();
        places();
        noRunKeepsTheLast();
        end();
    }

    private static TearSafeCard card() {
        return new TearSafeCard(250);
    }

    private static void outOfRangeAndAbsent() {
        TearSafeCard card = card();
        loadGood(card, 0, 1, true, PUSH, 9, RETURN, 0);
        loadGood(card, 1, 0, true, PUSH, 9, RETURN, 0);
        loadGood(card, 2, 1, true, PUSH, 9, RETURN, 0);
        int[][] wrong = {{-1, 0}, {-1, 1}, {3, 0}, {0, -1}, {0, 2}, {1, 2}, {1, -1}, {0, 4}, {Integer.MIN_VALUE, 0},
            {Integer.MAX_VALUE, 1}, {0, Integer.MIN_VALUE}, {2, Integer.MAX_VALUE}};
        for (int[] pair : wrong) {
            due("run(" + pair[0] + ", " + pair[1] + ")", card.run(pair[0], pair[1], 1), TearSafeCard.REFUSED);
        }
        due("absent", card.run(0, 0, 1), TearSafeCard.ABSENT);
        due("absent", card.run(1, 1, 1), TearSafeCard.ABSENT);
        due("absent", card.run(2, 0, 1), TearSafeCard.ABSENT);
        due("no run yet: result", card.result(), 0);
        due("no run yet: place", card.place(), -1);
    }

    private static void argument() {
        TearSafeCard card = card();
        loadGood(card, 0, 0, false, LOAD, 0, RETURN, 0);
        int[] given = {0, 1, -1, 32767, 32768, 65535, 65536, 65537, -32768, -32769, 40000, Integer.MAX_VALUE, Integer.MIN_VALUE};
        int[] low = {0, 1, -1, 32767, -32768, -1, 0, 1, -32768, 32767, -25536, -1, 0};
        for (int i = 0; i < given.length; i++) {
            dueReturned("argument " + given[i], card, 0, given[i], low[i]);
        }
    }

    private static void arithmetic() {
        calculation("ADD", ADD, 20000, 127, 20127);
        calculation("ADD over the top", ADD, 32767, 1, -32768);
        calculation("ADD under the bottom", ADD, -32768, -1, 32767);
        calculation("SUB takes the top from the lower one", SUB, 5, 7, -2);
        calculation("SUB under the bottom", SUB, -32768, 1, 32767);
        calculation("SUB over the top", SUB, 32767, -1, -32768);
        calculation("MUL", MUL, -30, 7, -210);
        calculation("MUL over the top", MUL, 20000, 127, 20000 * 127 - 39 * 65536);
        calculation("MUL of the least", MUL, -32768, -1, -32768);
        calculation("LESS", LESS, 5, 7, 1);
        calculation("LESS of equal ones", LESS, 7, 7, 0);
        calculation("LESS the other way round", LESS, 7, 5, 0);
        calculation("LESS with signs", LESS, -32768, 127, 1);
        calculation("LESS with signs", LESS, 32767, -128, 0);
    }

    private static void calculation(String what, int op, int lower, int upper, int result) {
        TearSafeCard card = card();
        loadGood(card, 0, 0, false, LOAD, 0, PUSH, upper, op, 0, RETURN, 0);
        dueReturned(what + " of " + lower + " and " + upper, card, 0, lower, result);
    }

    private static void localsAndStack() {
        TearSafeCard card = card();
        loadGood(card, 0, 0, false, PUSH, -128, STORE, 1, LOAD, 0, LOAD, 1, SUB, 0, RETURN, 0);
        dueReturned("STORE and LOAD", card, 0, 2, 130);
        loadGood(card, 0, 0, false, LOAD, 0, DUP, 0, MUL, 0, PUSH, 127, DROP, 0, RETURN, 0);
        dueReturned("DUP and DROP", card, 0, -7, 49);
        loadGood(card, 0, 0, false, PUSH, 1, PUSH, 2, PUSH, 3, RETURN, 0);
        dueReturned("RETURN takes the top", card, 0, 0, 3);
        loadGood(card, 0, 0, false, LOAD, 0, STORE, 1, PUSH, 5, STORE, 0, LOAD, 0, PUSH, 100, MUL, 0, LOAD, 1, ADD, 0, RETURN, 0);
        dueReturned("two locals", card, 0, 8, 508);
    }

    private static void jumps() {
        TearSafeCard card = card();
        loadGood(card, 0, 0, false, LOAD, 0, JZERO, 4, PUSH, 1, RETURN, 0, PUSH, 2, RETURN, 0);
        dueReturned("JZERO of 0", card, 0, 0, 2);
        dueReturned("JZERO of 1", card, 0, 1, 1);
        dueReturned("JZERO of -1", card, 0, -1, 1);
        dueReturned("JZERO of 65536", card, 0, 65536, 2);
        loadGood(card, 0, 0, false, JUMP, 3, PUSH, 1, RETURN, 0, PUSH, 2, RETURN, 0);
        dueReturned("JUMP", card, 0, 0, 2);
    }

    private static void calls() {
        TearSafeCard card = card();
        loadGood(card, 0, 1, false, LOAD, 0, PUSH, 2, MUL, 0, RETURN, 0);
        loadGood(card, 0, 0, false, PUSH, 9, STORE, 1, PUSH, 100, LOAD, 0, CALL, 1, ADD, 0, LOAD, 1, ADD, 0, RETURN, 0);
        dueReturned("a call of an own method that is not exported", card, 0, 7, 123);
        loadGood(card, 2, 0, false, LOAD, 0, CALL, 1, RETURN, 0);
        dueFailed("another applet's method that is not exported", card, 4, 7, TearSafeCard.WALL, 1);
        loadGood(card, 0, 1, true, LOAD, 0, PUSH, 3, MUL, 0, RETURN, 0);
        dueReturned("another applet's exported method", card, 4, 7, 21);
        loadGood(card, 2, 0, false, LOAD, 0, CALL, 3, RETURN, 0);
        dueFailed("an absent method of another applet", card, 4, 7, TearSafeCard.ABSENT, 1);
        loadGood(card, 2, 0, false, LOAD, 0, CALL, 5, RETURN, 0);
        dueFailed("an absent method of its own", card, 4, 7, TearSafeCard.ABSENT, 1);
        loadGood(card, 1, 0, true, PUSH, 5, STORE, 0, PUSH, 6, STORE, 1, PUSH, 1, RETURN, 0);
        loadGood(card, 0, 0, false, PUSH, 8, STORE, 1, PUSH, 0, CALL, 2, LOAD, 0, ADD, 0, LOAD, 1, ADD, 0, RETURN, 0);
        dueReturned("a call leaves the caller's locals", card, 0, 20, 29);
        wallFollowsTheRunningMethod();
    }

    /** The method that runs decides, not the one that was called from outside. */
    private static void wallFollowsTheRunningMethod() {
        TearSafeCard card = card();
        loadGood(card, 0, 1, false, PUSH, 4, RETURN, 0);
        loadGood(card, 1, 0, true, LOAD, 0, CALL, 1, RETURN, 0);
        loadGood(card, 0, 0, true, LOAD, 0, CALL, 2, RETURN, 0);
        dueRun("applet 1 on behalf of applet 0", card, 0, 0, TearSafeCard.WALL, 0, 33);
        loadGood(card, 0, 0, true, LOAD, 0, CALL, 1, RETURN, 0);
        loadGood(card, 1, 0, true, LOAD, 0, CALL, 0, RETURN, 0);
        dueReturned("applet 0 on behalf of applet 1", card, 2, 0, 4);
    }

    private static void depth() {
        TearSafeCard card = card();
        int[] callItselfBelow = {LOAD, 0, PUSH, 4, LESS, 0, JZERO, 9, LOAD, 0, PUSH, 1, ADD, 0, CALL, 0, RETURN, 0, LOAD, 0, RETURN, 0};
        loadGood(card, 0, 0, false, callItselfBelow);
        dueReturned("four methods deep", card, 0, 1, 4);
        dueFailed("five methods deep", card, 0, 0, TearSafeCard.DEPTH, 7);
        loadGood(card, 0, 1, true, PUSH, 0, CALL, 0, RETURN, 0);
        loadGood(card, 0, 0, false, LOAD, 0, CALL, 0, RETURN, 0);
        dueRun("endless", card, 1, 0, TearSafeCard.DEPTH, 0, 1);
        // ABSENT and WALL come before DEPTH.
        loadGood(card, 0, 0, false, LOAD, 0, PUSH, 3, LESS, 0, JZERO, 9, LOAD, 0, PUSH, 1, ADD, 0, CALL, 0, RETURN, 0,
            LOAD, 0, CALL, 2, RETURN, 0);
        dueFailed("absent at depth 4", card, 0, 0, TearSafeCard.ABSENT, 10);
        loadGood(card, 1, 0, false, PUSH, 1, RETURN, 0);
        dueFailed("walled at depth 4", card, 0, 0, TearSafeCard.WALL, 10);
        loadGood(card, 1, 0, true, PUSH, 1, RETURN, 0);
        dueFailed("too deep at depth 4", card, 0, 0, TearSafeCard.DEPTH, 10);
        dueReturned("right at depth 3", card, 0, 1, 1);
    }

    private static void steps() {
        TearSafeCard card = new TearSafeCard(20);
        loadGood(card, 0, 1, false, LOAD, 0, PUSH, 1, SUB, 0, RETURN, 0);
        loadGood(card, 0, 0, false, LOAD, 0, CALL, 1, CALL, 1, CALL, 1, RETURN, 0);
        dueReturned("17 instructions", card, 0, 3, 0);
        loadGood(card, 0, 0, false, LOAD, 0, CALL, 1, CALL, 1, CALL, 1, DUP, 0, DROP, 0, BEGIN, 0, RETURN, 0);
        dueReturned("20 instructions", card, 0, 3, 0);
        loadGood(card, 0, 0, false, LOAD, 0, CALL, 1, CALL, 1, CALL, 1, DUP, 0, DROP, 0, BEGIN, 0, DUP, 0, RETURN, 0);
        dueFailed("21 instructions", card, 0, 3, TearSafeCard.STEPS, 8);
        loadGood(card, 0, 0, false, LOAD, 0, CALL, 1, CALL, 1, CALL, 1, CALL, 1, RETURN, 0);
        dueRun("the 21st is a called method's", card, 0, 3, TearSafeCard.STEPS, 0, 19);
        stepsComeFirst();
    }

    private static void stepsComeFirst() {
        int[] limits = {20, 21};
        int[] outcomes = {TearSafeCard.STEPS, TearSafeCard.NESTING};
        for (int i = 0; i < 2; i++) {
            TearSafeCard card = new TearSafeCard(limits[i]);
            loadGood(card, 0, 1, false, LOAD, 0, PUSH, 1, SUB, 0, RETURN, 0);
            loadGood(card, 0, 0, false, LOAD, 0, CALL, 1, CALL, 1, CALL, 1, DUP, 0, DROP, 0, DUP, 0, DROP, 0, COMMIT, 0,
                RETURN, 0);
            dueFailed("the 21st would fail too, limit " + limits[i], card, 0, 3, outcomes[i], 8);
        }
        TearSafeCard card = new TearSafeCard(20);
        loadGood(card, 0, 0, false, BEGIN, 0, ABORT, 0, JUMP, 0);
        dueFailed("rounds of three", card, 0, 0, TearSafeCard.STEPS, 2);
        dueFailed("each run has its own steps", card, 0, 0, TearSafeCard.STEPS, 2);
    }

    private static void nulls() {
        TearSafeCard card = card();
        loadGood(card, 0, 0, false, NULL, 0, PUSH, 0, GET, 0, RETURN, 0);
        dueFailed("GET", card, 0, 0, TearSafeCard.NULL, 2);
        loadGood(card, 0, 0, false, ROOT, 1, PUSH, 9, PUSH, 0, PUT, 0, PUSH, 0, RETURN, 0);
        dueFailed("PUT, with a wrong index too", card, 0, 0, TearSafeCard.NULL, 3);
        loadGood(card, 0, 0, false, FOREIGN, 5, SHARE, 0, PUSH, 0, RETURN, 0);
        dueFailed("SHARE", card, 0, 0, TearSafeCard.NULL, 1);
        loadGood(card, 0, 0, false, NULL, 0, LENGTH, 0, RETURN, 0);
        dueFailed("LENGTH", card, 0, 0, TearSafeCard.NULL, 1);
        loadGood(card, 0, 0, false, NULL, 0, SETROOT, 0, NULL, 0, DUP, 0, DROP, 0, STORE, 1, PUSH, 6, RETURN, 0);
        dueReturned("a null reference harms no other instruction", card, 0, 0, 6);
    }

    private static void bounds() {
        TearSafeCard card = card();
        loadGood(card, 0, 0, false, LOAD, 0, NEW, 0, LENGTH, 0, RETURN, 0);
        loadGood(card, 0, 1, false, LOAD, 0, NEW, 1, LENGTH, 0, RETURN, 0);
        for (int size = 1; size <= 4; size++) {
            dueReturned("a lasting object", card, 0, size, size);
            dueReturned("a passing object", card, 1, size, size);
        }
        int[] wrong = {0, -1, 5, 32767, -32768};
        for (int size : wrong) {
            dueFailed("NEW lasting of " + size, card, 0, size, TearSafeCard.BOUNDS, 1);
            dueFailed("NEW passing of " + size, card, 1, size, TearSafeCard.BOUNDS, 1);
        }
        for (int size = 1; size <= 4; size++) {
            indexes(size);
        }
    }

    private static void indexes(int size) {
        TearSafeCard card = card();
        loadGood(card, 0, 0, false, PUSH, size, NEW, 0, LOAD, 0, GET, 0, RETURN, 0);
        loadGood(card, 0, 1, false, PUSH, size, NEW, 1, DUP, 0, LOAD, 0, PUSH, 5, PUT, 0, LOAD, 0, GET, 0, RETURN, 0);
        for (int index = -2; index <= 5; index++) {
            if (index >= 0 && index < size) {
                dueReturned("GET at " + index + " of " + size, card, 0, index, 0);
                dueReturned("PUT at " + index + " of " + size, card, 1, index, 5);
            } else {
                dueFailed("GET at " + index + " of " + size, card, 0, index, TearSafeCard.BOUNDS, 3);
                dueFailed("PUT at " + index + " of " + size, card, 1, index, TearSafeCard.BOUNDS, 5);
            }
        }
    }

    private static void places() {
        for (int number = 0; number < 6; number++) {
            TearSafeCard card = card();
            for (int at = 0; at < 15; at++) {
                loadGood(card, number / 2, number % 2, true, failingAt(at));
                dueFailed("a failure at " + at, card, number, 0, TearSafeCard.NESTING, at);
            }
        }
        TearSafeCard card = card();
        int[] code = failingAt(0);
        code[0] = JUMP;
        code[1] = 15;
        code[31] = 15;
        loadGood(card, 2, 1, false, code);
        dueFailed("a failure of the last instruction", card, 5, 0, TearSafeCard.STEPS, 15);
    }

    /** Sixteen instructions that go one by one to a COMMIT without a transaction. */
    private static int[] failingAt(int failing) {
        int[] code = new int[32];
        for (int at = 0; at < 16; at++) {
            code[2 * at] = at == failing ? COMMIT : JUMP;
            code[2 * at + 1] = at < failing ? at + 1 : 0;
        }
        return code;
    }

    private static void noRunKeepsTheLast() {
        TearSafeCard card = card();
        loadGood(card, 0, 0, false, LOAD, 0, JZERO, 4, LOAD, 0, RETURN, 0, COMMIT, 0, JUMP, 4);
        dueReturned("a run", card, 0, 12, 12);
        card.run(2, 0, 1);
        due("result after ABSENT", card.result(), 12);
        card.run(3, 0, 1);
        due("result after REFUSED", card.result(), 12);
        due("place after REFUSED", card.place(), -1);
        dueFailed("a failing run", card, 0, 0, TearSafeCard.NESTING, 4);
        card.run(2, 0, 1);
        card.run(0, 2, 1);
        card.reset();
        card.tear(3);
        load(card, 0, 0, true, PUSH, 1, RETURN, 0);
        due("result after no run", card.result(), 0);
        due("place after no run", card.place(), 4);
        dueReturned("a run again", card, 0, 0, 1);
    }
}

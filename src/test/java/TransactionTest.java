/** Promise 4: transactions, from BEGIN to COMMIT, ABORT, the end of the run or a failure. */
final class TransactionTest extends Support {
    public static void main(String[] args) {
        waysOut();
        nesting();
        acrossCalls();
        shared();
        passing();
        madeSince();
        sameNumberAgain();
        otherApplets();
        end();
    }

    /** Applet 0: root 0 refers to a lasting object (5), root 1 to a passing one (6). */
    private static TearSafeCard card() {
        TearSafeCard card = new TearSafeCard(250);
        loadGood(card, 0, 0, true, PUSH, 1, NEW, 0, DUP, 0, SETROOT, 0, PUSH, 0, PUSH, 5, PUT, 0, PUSH, 1, NEW, 1, DUP, 0,
            SETROOT, 1, PUSH, 0, PUSH, 6, PUT, 0, PUSH, 0, RETURN, 0);
        dueReturned("the objects are made", card, 0, 0, 0);
        return card;
    }

    private static void dueState(String what, TearSafeCard card, int lasting, int passing, int traits) {
        due(what + ": the lasting element", card.element(0, 0, 0), lasting);
        due(what + ": the passing element", card.element(0, 1, 0), passing);
        due(what + ": traits", card.traits(0, 0), traits);
    }

    /** The code writes 9 into the lasting object in a transaction, and then does op. */
    private static void waysOut() {
        TearSafeCard card = card();
        wayOut(card, COMMIT);
        dueReturned("COMMIT", card, 1, 0, 9);
        dueState("COMMIT", card, 9, 6, 2);
        card = card();
        wayOut(card, ABORT);
        dueReturned("ABORT", card, 1, 0, 5);
        dueState("ABORT", card, 5, 6, 2);
        card = card();
        wayOut(card, RETURN);
        dueReturned("the end of the run", card, 1, 0, 1);
        dueState("the end of the run", card, 5, 6, 2);
        card = card();
        wayOut(card, BEGIN);
        dueFailed("a failure", card, 1, 0, TearSafeCard.NESTING, 6);
        dueState("a failure", card, 5, 6, 2);
        card = card();
        loadGood(card, 0, 1, true, BEGIN, 0, ROOT, 0, PUSH, 0, PUSH, 9, PUT, 0, JUMP, 5);
        dueFailed("steps", card, 1, 0, TearSafeCard.STEPS, 5);
        dueState("steps", card, 5, 6, 2);
        card = card();
        loadGood(card, 0, 1, true, ROOT, 0, PUSH, 0, PUSH, 9, PUT, 0, ABORT, 0, PUSH, 0, RETURN, 0);
        dueFailed("a failure outside of a transaction", card, 1, 0, TearSafeCard.NESTING, 4);
        dueState("a failure outside of a transaction", card, 9, 6, 2);
    }

    private static void wayOut(TearSafeCard card, int op) {
        loadGood(card, 0, 1, true, BEGIN, 0, ROOT, 0, PUSH, 0, PUSH, 9, PUT, 0, PUSH, 1, op, 0, ROOT, 0, PUSH, 0, GET, 0, RETURN, 0);
    }

    private static void nesting() {
        TearSafeCard card = card();
        loadGood(card, 0, 1, true, BEGIN, 0, COMMIT, 0, BEGIN, 0, ABORT, 0, BEGIN, 0, COMMIT, 0, LOAD, 0, RETURN, 0);
        dueReturned("one after the other", card, 1, 3, 3);
        loadGood(card, 0, 1, true, BEGIN, 0, COMMIT, 0, COMMIT, 0, LOAD, 0, RETURN, 0);
        dueFailed("COMMIT twice", card, 1, 3, TearSafeCard.NESTING, 2);
        loadGood(card, 0, 1, true, BEGIN, 0, ABORT, 0, ABORT, 0, LOAD, 0, RETURN, 0);
        dueFailed("ABORT twice", card, 1, 3, TearSafeCard.NESTING, 2);
        loadGood(card, 0, 1, true, BEGIN, 0, LOAD, 0, RETURN, 0);
        dueReturned("a run that leaves it open", card, 1, 3, 3);
        dueReturned("the next run has none", card, 1, 3, 3);
        loadGood(card, 0, 1, true, ABORT, 0, LOAD, 0, RETURN, 0);
        dueFailed("ABORT without one", card, 1, 3, TearSafeCard.NESTING, 0);
        loadGood(card, 0, 1, true, COMMIT, 0, LOAD, 0, RETURN, 0);
        due("tear", card.tear(0), 0);
        dueFailed("COMMIT without one is no WRITE", card, 1, 3, TearSafeCard.NESTING, 0);
    }

    private static void acrossCalls() {
        TearSafeCard card = card();
        loadGood(card, 1, 0, true, BEGIN, 0, LOAD, 0, RETURN, 0);
        loadGood(card, 1, 1, true, ABORT, 0, LOAD, 0, RETURN, 0);
        loadGood(card, 0, 1, true, PUSH, 0, CALL, 2, DROP, 0, ROOT, 0, PUSH, 0, PUSH, 9, PUT, 0, PUSH, 0, CALL, 3, DROP, 0,
            ROOT, 0, PUSH, 0, GET, 0, RETURN, 0);
        dueReturned("begun and aborted by called methods", card, 1, 0, 5);
        dueState("begun and aborted by called methods", card, 5, 6, 2);
        loadGood(card, 1, 1, true, COMMIT, 0, LOAD, 0, RETURN, 0);
        dueReturned("begun and committed by called methods", card, 1, 0, 9);
        dueState("begun and committed by called methods", card, 9, 6, 2);
        loadGood(card, 1, 1, true, BEGIN, 0, LOAD, 0, RETURN, 0);
        dueRun("begun twice", card, 1, 0, TearSafeCard.NESTING, 0, 48);
        loadGood(card, 0, 1, true, PUSH, 0, CALL, 2, DROP, 0, ROOT, 0, PUSH, 0, PUSH, 11, PUT, 0, PUSH, 0, RETURN, 0);
        dueReturned("left open", card, 1, 0, 0);
        dueState("left open", card, 9, 6, 2);
    }

    private static void shared() {
        TearSafeCard card = card();
        loadGood(card, 0, 1, true, BEGIN, 0, ROOT, 0, SHARE, 0, ROOT, 1, SHARE, 0, ABORT, 0, PUSH, 1, RETURN, 0);
        dueReturned("SHARE and ABORT", card, 1, 0, 1);
        due("the lasting object is private again", card.traits(0, 0), 2);
        due("the passing object is private again", card.traits(0, 1), 0);
        loadGood(card, 0, 1, true, BEGIN, 0, ROOT, 0, SHARE, 0, COMMIT, 0, PUSH, 1, RETURN, 0);
        dueReturned("SHARE and COMMIT", card, 1, 0, 1);
        due("the object is shared", card.traits(0, 0), 3);
        loadGood(card, 0, 1, true, BEGIN, 0, ROOT, 1, SHARE, 0, ABORT, 0, PUSH, 1, RETURN, 0);
        dueReturned("ABORT", card, 1, 0, 1);
        due("what was shared at BEGIN stays shared", card.traits(0, 0), 3);
    }

    private static void passing() {
        TearSafeCard card = card();
        loadGood(card, 0, 1, true, BEGIN, 0, ROOT, 1, PUSH, 0, PUSH, 70, PUT, 0, ROOT, 0, PUSH, 0, PUSH, 71, PUT, 0, ABORT, 0,
            ROOT, 1, PUSH, 0, GET, 0, RETURN, 0);
        dueReturned("a passing element stays at ABORT", card, 1, 0, 70);
        dueState("a passing element stays at ABORT", card, 5, 70, 2);
    }

    private static void madeSince() {
        TearSafeCard card = card();
        loadGood(card, 0, 1, true, BEGIN, 0, PUSH, 2, NEW, 0, STORE, 1, LOAD, 1, PUSH, 1, PUSH, 33, PUT, 0, LOAD, 1, SETROOT, 0,
            ABORT, 0, LOAD, 1, SETROOT, 1, LOAD, 0, RETURN, 0);
        dueReturned("an object made since BEGIN", card, 1, 4, 4);
        due("it keeps its elements", card.element(0, 1, 1), 33);
        due("it keeps its length", card.length(0, 1), 2);
        due("the root of BEGIN is back", card.element(0, 0, 0), 5);
        loadGood(card, 0, 1, true, BEGIN, 0, PUSH, 2, NEW, 0, DUP, 0, SHARE, 0, ABORT, 0, SETROOT, 1, LOAD, 0, RETURN, 0);
        dueReturned("an object made and shared since BEGIN", card, 1, 4, 4);
        due("it stays shared", card.traits(0, 1), 3);
    }

    /** A new object must not get what another one, gone since BEGIN, had in its place. */
    private static void sameNumberAgain() {
        TearSafeCard card = card();
        loadGood(card, 0, 1, true, PUSH, 4, NEW, 0, DUP, 0, SHARE, 0, PUSH, 0, PUSH, 99, PUT, 0, BEGIN, 0, PUSH, 1, NEW, 0,
            STORE, 1, ABORT, 0, LOAD, 1, SETROOT, 1, LOAD, 0, RETURN, 0);
        dueReturned("one was gone before BEGIN", card, 1, 0, 0);
        due("the new one's element", card.element(0, 1, 0), 0);
        due("the new one's traits", card.traits(0, 1), 2);
        due("the new one's length", card.length(0, 1), 1);
        card = card();
        loadGood(card, 0, 1, true, PUSH, 4, NEW, 0, DUP, 0, SHARE, 0, BEGIN, 0, DROP, 0, PUSH, 1, NEW, 0, STORE, 1, ABORT, 0,
            LOAD, 1, SETROOT, 1, LOAD, 0, RETURN, 0);
        dueReturned("one is gone since BEGIN", card, 1, 0, 0);
        due("the new one's traits", card.traits(0, 1), 2);
        due("the new one's length", card.length(0, 1), 1);
    }

    private static void otherApplets() {
        TearSafeCard card = card();
        loadGood(card, 1, 0, true, PUSH, 3, NEW, 0, SETROOT, 1, PUSH, 0, RETURN, 0);
        loadGood(card, 0, 1, true, BEGIN, 0, PUSH, 0, CALL, 2, RETURN, 0);
        dueReturned("another applet's root set in a transaction", card, 1, 0, 0);
        due("it is what it was at BEGIN", card.length(1, 1), 0);
        dueReturned("and outside of one", card, 2, 0, 0);
        due("it is set", card.length(1, 1), 3);
    }
}

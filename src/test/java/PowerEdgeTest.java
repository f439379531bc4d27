/** The edges that the sentences on WRITEs and on POWER name. */
final class PowerEdgeTest extends Support {
    private static final int TORN = TearSafeCard.TORN;

    public static void main(String[] args) {
        writes();
        noWrites();
        afterTear();
        overRuns();
        withinARun();
        undoneWritesCount();
        notDone();
        passingElementsWhenTorn();
        passingElementsAtReset();
        onlyThen();
        notAwaitedAnyMore();
        end();
    }

    /** Applet 0 has a lasting object (5) in root 0 and a passing one (6, 7) in root 1, applet 1 a lasting, shared one (8). */
    private static TearSafeCard card() {
        TearSafeCard card = new TearSafeCard(250);
        loadGood(card, 0, 0, true, PUSH, 1, NEW, 0, DUP, 0, SETROOT, 0, PUSH, 0, PUSH, 5, PUT, 0, PUSH, 2, NEW, 1, SETROOT, 1,
            PUSH, 0, RETURN, 0);
        dueReturned("two objects", card, 0, 0, 0);
        fillPassing(card);
        loadGood(card, 1, 0, true, PUSH, 1, NEW, 0, DUP, 0, SETROOT, 0, DUP, 0, SHARE, 0, PUSH, 0, PUSH, 8, PUT, 0, PUSH, 0, RETURN, 0);
        dueReturned("a shared object", card, 2, 0, 0);
        loadGood(card, 2, 0, true, NULL, 0, SETROOT, 0, PUSH, 7, RETURN, 0);
        return card;
    }

    private static void fillPassing(TearSafeCard card) {
        loadGood(card, 0, 0, true, ROOT, 1, PUSH, 0, PUSH, 6, PUT, 0, ROOT, 1, PUSH, 1, PUSH, 7, PUT, 0, PUSH, 0, RETURN, 0);
        dueReturned("passing elements", card, 0, 0, 0);
    }

    private static void duePassing(String what, TearSafeCard card, int first, int second) {
        due(what + ": passing element 0", card.element(0, 1, 0), first);
        due(what + ": passing element 1", card.element(0, 1, 1), second);
    }

    /** Method 0 of applet 2 has one WRITE, its instruction 1. */
    private static void dueNextTorn(String what, TearSafeCard card) {
        dueFailed(what + ": the next WRITE is torn", card, 4, 0, TORN, 1);
    }

    private static void writes() {
        sentence("A WRITE is due when PUT on a lasting object, SETROOT, SHARE, NEW of a lasting object, or COMMIT has nothing else "
            + "against it.");
        write("PUT", 3, ROOT, 0, PUSH, 0, PUSH, 9, PUT, 0, PUSH, 1, RETURN, 0);
        write("PUT of the number that is there", 3, ROOT, 0, PUSH, 0, PUSH, 5, PUT, 0, PUSH, 1, RETURN, 0);
        write("PUT on another applet's object", 3, FOREIGN, 2, PUSH, 0, PUSH, 9, PUT, 0, PUSH, 1, RETURN, 0);
        write("PUT in a transaction", 4, BEGIN, 0, ROOT, 0, PUSH, 0, PUSH, 9, PUT, 0, PUSH, 1, RETURN, 0);
        write("SETROOT", 1, ROOT, 0, SETROOT, 1, PUSH, 1, RETURN, 0);
        write("SETROOT to null", 1, NULL, 0, SETROOT, 1, PUSH, 1, RETURN, 0);
        write("SETROOT to what it refers to", 1, ROOT, 1, SETROOT, 1, PUSH, 1, RETURN, 0);
        write("SHARE of a lasting object", 1, ROOT, 0, SHARE, 0, PUSH, 1, RETURN, 0);
        write("SHARE of a passing object", 1, ROOT, 1, SHARE, 0, PUSH, 1, RETURN, 0);
        write("NEW", 1, PUSH, 1, NEW, 0, LENGTH, 0, RETURN, 0);
        write("COMMIT", 1, BEGIN, 0, COMMIT, 0, PUSH, 1, RETURN, 0);
        TearSafeCard card = card();
        loadGood(card, 0, 1, true, ROOT, 0, DUP, 0, SHARE, 0, SHARE, 0, PUSH, 1, RETURN, 0);
        card.tear(1);
        dueFailed("SHARE of a shared object", card, 1, 0, TORN, 3);
    }

    /** The code has one WRITE, its instruction at, and answers 1. */
    private static void write(String what, int at, int... code) {
        TearSafeCard card = card();
        loadGood(card, 0, 1, true, code);
        card.tear(0);
        dueFailed(what, card, 1, 0, TORN, at);
        card.tear(1);
        dueReturned(what + " with one awaited after it", card, 1, 0, 1);
        dueNextTorn(what, card);
        card.tear(2);
        dueReturned(what + " with two awaited after it", card, 1, 0, 1);
        due(what + ": another WRITE", card.run(2, 0, 0), TearSafeCard.RETURNED);
        dueNextTorn(what, card);
    }

    private static void noWrites() {
        sentence("A WRITE is due when PUT on a lasting object, SETROOT, SHARE, NEW of a lasting object, or COMMIT");
        noWrite("PUT on a passing object", ROOT, 1, PUSH, 0, PUSH, 9, PUT, 0, PUSH, 1, RETURN, 0);
        noWrite("NEW of a passing object", PUSH, 1, NEW, 1, LENGTH, 0, RETURN, 0);
        noWrite("BEGIN and ABORT", BEGIN, 0, ABORT, 0, PUSH, 1, RETURN, 0);
        noWrite("BEGIN and the end of the run", BEGIN, 0, PUSH, 1, RETURN, 0);
        noWrite("GET, LENGTH and SUB", ROOT, 0, PUSH, 0, GET, 0, FOREIGN, 2, LENGTH, 0, SUB, 0, PUSH, 3, SUB, 0, RETURN, 0);
        noWrite("LOAD, STORE, ADD, MUL, LESS", PUSH, 1, STORE, 1, LOAD, 1, LOAD, 1, ADD, 0, PUSH, 2, MUL, 0, PUSH, 5, LESS, 0, RETURN, 0);
        noWrite("ROOT, NULL, DUP, DROP", ROOT, 0, NULL, 0, DUP, 0, DROP, 0, DROP, 0, DROP, 0, PUSH, 1, RETURN, 0);
        noWrite("JUMP, JZERO", JUMP, 2, PUSH, 0, PUSH, 0, JZERO, 4, PUSH, 1, RETURN, 0);
        TearSafeCard card = card();
        loadGood(card, 1, 1, true, PUSH, 1, RETURN, 0);
        loadGood(card, 0, 1, true, PUSH, 1, CALL, 3, RETURN, 0);
        card.tear(0);
        dueReturned("CALL and RETURN", card, 1, 0, 1);
        dueNextTorn("CALL and RETURN", card);
    }

    private static void noWrite(String what, int... code) {
        TearSafeCard card = card();
        loadGood(card, 0, 1, true, code);
        card.tear(0);
        dueReturned(what, card, 1, 0, 1);
        dueNextTorn(what, card);
        card.tear(1);
        dueReturned(what, card, 1, 0, 1);
        due(what + ": the one WRITE", card.run(2, 0, 0), TearSafeCard.RETURNED);
        dueNextTorn(what, card);
    }

    private static void afterTear() {
        sentence("The next WRITE after tear(n)");
        TearSafeCard card = card();
        for (int time = 0; time < 5; time++) {
            dueReturned("a WRITE before tear", card, 4, 0, 7);
        }
        card.tear(0);
        dueNextTorn("tear(0)", card);
        dueReturned("the WRITE after that", card, 4, 0, 7);
        card.tear(1);
        dueReturned("tear(1): one WRITE", card, 4, 0, 7);
        dueNextTorn("tear(1)", card);
        dueReturned("the WRITE after that", card, 4, 0, 7);
    }

    private static void overRuns() {
        sentence("and n further WRITEs (counted over runs) is not done: TORN.");
        int[] counts = {0, 1, 2, 3, 50, 99, 100};
        for (int n : counts) {
            TearSafeCard card = card();
            due("tear(" + n + ")", card.tear(n), n);
            for (int time = 1; time <= n; time++) {
                due("WRITE " + time + " of " + n, card.run(2, 0, 0), TearSafeCard.RETURNED);
                due("a run without a WRITE between", card.run(1, 1, 0), TearSafeCard.ABSENT);
            }
            duePassing("before the failure", card, 6, 7);
            dueNextTorn("tear(" + n + ")", card);
            duePassing("after the failure", card, 0, 0);
        }
    }

    /** Each run of method 1 has five WRITEs, its instructions 1, 3, 5, 7 and 9. */
    private static void withinARun() {
        sentence("n further WRITEs (counted over runs)");
        for (int n = 0; n <= 100; n += n < 12 ? 1 : 11) {
            TearSafeCard card = card();
            loadGood(card, 0, 1, true, NULL, 0, SETROOT, 0, NULL, 0, SETROOT, 0, NULL, 0, SETROOT, 0, NULL, 0, SETROOT, 0,
                NULL, 0, SETROOT, 0, PUSH, 4, RETURN, 0);
            card.tear(n);
            for (int time = 0; time < n / 5; time++) {
                dueReturned("five WRITEs of " + n, card, 1, 0, 4);
            }
            dueFailed("the WRITE after " + n, card, 1, 0, TORN, n % 5 * 2 + 1);
        }
    }

    private static void undoneWritesCount() {
        sentence("The next WRITE after tear(n) and n further WRITEs");
        TearSafeCard card = card();
        loadGood(card, 0, 1, true, BEGIN, 0, ROOT, 0, PUSH, 0, PUSH, 9, PUT, 0, ROOT, 0, SHARE, 0, ABORT, 0, PUSH, 1, RETURN, 0);
        card.tear(3);
        dueReturned("two WRITEs that ABORT undoes", card, 1, 0, 1);
        dueReturned("a third", card, 4, 0, 7);
        dueNextTorn("the fourth", card);
        loadGood(card, 0, 1, true, ROOT, 0, PUSH, 0, PUSH, 9, PUT, 0, COMMIT, 0, PUSH, 1, RETURN, 0);
        card.tear(2);
        dueFailed("a WRITE in a run that fails behind it", card, 1, 0, TearSafeCard.NESTING, 4);
        dueReturned("a second", card, 4, 0, 7);
        dueNextTorn("the third", card);
    }

    private static void notDone() {
        sentence("is not done: TORN.");
        TearSafeCard card = card();
        loadGood(card, 0, 1, true, ROOT, 0, PUSH, 0, PUSH, 9, PUT, 0, ROOT, 0, SHARE, 0, PUSH, 3, NEW, 0, SETROOT, 0, PUSH, 1, RETURN, 0);
        card.tear(0);
        dueFailed("PUT", card, 1, 0, TORN, 3);
        due("PUT is not done", card.element(0, 0, 0), 5);
        card.tear(1);
        dueFailed("SHARE", card, 1, 0, TORN, 5);
        due("PUT is done", card.element(0, 0, 0), 9);
        due("SHARE is not done", card.traits(0, 0), 2);
        card.tear(2);
        dueFailed("NEW", card, 1, 0, TORN, 7);
        due("SHARE is done", card.traits(0, 0), 3);
        card.tear(3);
        dueFailed("SETROOT", card, 1, 0, TORN, 8);
        due("SETROOT is not done", card.length(0, 0), 1);
        card.tear(4);
        dueReturned("none is torn", card, 1, 0, 1);
        due("SETROOT is done", card.length(0, 0), 3);
        dueNextTorn("the one after", card);
        loadGood(card, 0, 1, true, BEGIN, 0, ROOT, 0, PUSH, 2, PUSH, 9, PUT, 0, COMMIT, 0, PUSH, 1, RETURN, 0);
        card.tear(1);
        dueFailed("COMMIT", card, 1, 0, TORN, 5);
        due("COMMIT is not done", card.element(0, 0, 2), 0);
        dueReturned("COMMIT without a failure", card, 1, 0, 1);
        due("COMMIT is done", card.element(0, 0, 2), 9);
    }

    /** Six passing objects of four elements in the roots, each element 50, those of applet 2 shared. */
    private static TearSafeCard allPassing() {
        TearSafeCard card = new TearSafeCard(250);
        for (int root = 0; root < 6; root++) {
            int b = root % 2;
            loadGood(card, root / 2, 0, true, PUSH, 4, NEW, 1, DUP, 0, SETROOT, b, root < 4 ? DROP : SHARE, 0, LOAD, 0, RETURN, 0);
            dueReturned("a passing object", card, root / 2 * 2, 0, 0);
            loadGood(card, root / 2, 0, true, ROOT, b, LOAD, 0, PUSH, 50, PUT, 0, LOAD, 0, RETURN, 0);
            for (int index = 0; index < 4; index++) {
                dueReturned("an element", card, root / 2 * 2, index, index);
            }
        }
        dueAllPassing("before", card, 50);
        return card;
    }

    private static void dueAllPassing(String what, TearSafeCard card, int element) {
        for (int root = 0; root < 6; root++) {
            due(what + ": traits of " + root, card.traits(root / 2, root % 2), root / 2 * 4 + (root < 4 ? 0 : 1));
            due(what + ": length of " + root, card.length(root / 2, root % 2), 4);
            for (int index = 0; index < 4; index++) {
                due(what + ": element " + index + " of " + root, card.element(root / 2, root % 2, index), element);
            }
        }
    }

    private static void passingElementsWhenTorn() {
        sentence("Then, or at reset(), all elements of passing objects become 0");
        TearSafeCard card = allPassing();
        loadGood(card, 1, 1, true, PUSH, 1, NEW, 0, JUMP, 2);
        card.tear(0);
        dueFailed("torn", card, 3, 0, TORN, 1);
        dueAllPassing("torn", card, 0);
        card = card();
        loadGood(card, 0, 1, true, BEGIN, 0, ROOT, 1, PUSH, 0, PUSH, 9, PUT, 0, NULL, 0, SETROOT, 1, PUSH, 1, RETURN, 0);
        card.tear(0);
        dueFailed("torn in a transaction", card, 1, 0, TORN, 6);
        duePassing("torn in a transaction", card, 0, 0);
        due("a lasting element stays", card.element(0, 0, 0), 5);
        due("a lasting element stays", card.element(1, 0, 0), 8);
    }

    private static void passingElementsAtReset() {
        sentence("or at reset(), all elements of passing objects become 0");
        TearSafeCard card = allPassing();
        card.reset();
        dueAllPassing("reset", card, 0);
        card = card();
        card.reset();
        duePassing("reset", card, 0, 0);
        due("a lasting element stays", card.element(0, 0, 0), 5);
        due("a lasting element stays", card.element(1, 0, 0), 8);
        fillPassing(card);
        duePassing("filled again", card, 6, 7);
        card.reset();
        duePassing("reset again", card, 0, 0);
        eighthObject();
    }

    /** An object is no other for having been made while seven were held. */
    private static void eighthObject() {
        TearSafeCard card = new TearSafeCard(250);
        fillRoots(card);
        loadGood(card, 2, 1, true, PUSH, 1, NEW, 0, PUSH, 4, NEW, 1, SETROOT, 1, ROOT, 1, PUSH, 3, PUSH, 17, PUT, 0, LOAD, 0, RETURN, 0);
        dueReturned("an eighth object", card, 5, 0, 0);
        due("its element", card.element(2, 1, 3), 17);
        card.reset();
        due("its element after reset", card.element(2, 1, 3), 0);
        due("its length after reset", card.length(2, 1), 4);
    }

    private static void onlyThen() {
        sentence("Then, or at reset()");
        TearSafeCard card = card();
        card.tear(5);
        card.tear(-1);
        card.tear(0);
        duePassing("tear alone", card, 6, 7);
        loadGood(card, 0, 1, true, NULL, 0, LENGTH, 0, RETURN, 0);
        dueFailed("another failure", card, 1, 0, TearSafeCard.NULL, 1);
        duePassing("another failure", card, 6, 7);
        card.tear(1);
        dueReturned("a WRITE before the failure", card, 4, 0, 7);
        duePassing("a WRITE before the failure", card, 6, 7);
        loadGood(card, 0, 1, true, BEGIN, 0, ABORT, 0, PUSH, 1, RETURN, 0);
        dueReturned("an ABORT", card, 1, 0, 1);
        duePassing("an ABORT", card, 6, 7);
        dueNextTorn("then", card);
        duePassing("then", card, 0, 0);
    }

    private static void notAwaitedAnyMore() {
        sentence("and no failure is awaited any more.");
        TearSafeCard card = card();
        card.tear(0);
        dueNextTorn("tear(0)", card);
        for (int time = 0; time < 102; time++) {
            due("after TORN", card.run(2, 0, 0), TearSafeCard.RETURNED);
        }
        int[] counts = {0, 1, 100};
        for (int n : counts) {
            card = card();
            card.tear(n);
            card.reset();
            for (int time = 0; time < 102; time++) {
                due("after reset", card.run(2, 0, 0), TearSafeCard.RETURNED);
            }
        }
        fillPassing(card);
        dueReturned("a WRITE", card, 4, 0, 7);
        duePassing("none has failed", card, 6, 7);
    }
}

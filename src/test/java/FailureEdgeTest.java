/** The edges that RUNNING names beside its table's rows: what a failure leaves, which row holds first, and TORN. */
final class FailureEdgeTest extends Support {
    private static final int WALL = TearSafeCard.WALL;
    private static final int BOUNDS = TearSafeCard.BOUNDS;
    private static final int TORN = TearSafeCard.TORN;

    public static void main(String[] args) {
        oneMethod();
        failsBeforeItDoesAnything();
        endsTheRun();
        firstThatHolds();
        torn();
        nothingElseAgainstIt();
        end();
    }

    private static TearSafeCard card() {
        return new TearSafeCard(250);
    }

    /** Root 0 of each applet refers to a private, lasting object of two elements. */
    private static TearSafeCard cardWithObjects() {
        TearSafeCard card = card();
        for (int applet = 0; applet < 3; applet++) {
            loadGood(card, applet, 0, true, PUSH, 2, NEW, 0, DUP, 0, SETROOT, 0, PUSH, 1, PUSH, 5, PUT, 0, PUSH, 0, RETURN, 0);
            dueReturned("an object", card, 2 * applet, 0, 0);
        }
        return card;
    }

    private static void dueUnchanged(String what, TearSafeCard card) {
        due(what + ": held", card.held(), 3);
        for (int applet = 0; applet < 3; applet++) {
            due(what + ": traits", card.traits(applet, 0), 4 * applet + 2);
            due(what + ": element 0", card.element(applet, 0, 0), 0);
            due(what + ": element 1", card.element(applet, 0, 1), 5);
            due(what + ": the other root", card.traits(applet, 1), -1);
        }
    }

    private static void oneMethod() {
        sentence("A run calls one method");
        TearSafeCard card = card();
        for (int number = 0; number < 6; number++) {
            loadGood(card, number / 2, number % 2, true, PUSH, 1, NEW, 0, SETROOT, number % 2, PUSH, 20 + number, RETURN, 0);
        }
        for (int number = 0; number < 6; number++) {
            dueReturned("method " + number, card, number, 0, 20 + number);
            due("it alone has been called", card.held(), number + 1);
            due("its own root is set", card.length(number / 2, number % 2), 1);
        }
    }

    private static void failsBeforeItDoesAnything() {
        sentence("an instruction that fails, fails before it does anything");
        leavesAll("PUT over the wall", WALL, 3, FOREIGN, 2, PUSH, 0, PUSH, 9, PUT, 0, JUMP, 4);
        leavesAll("PUT behind the last", BOUNDS, 3, ROOT, 0, PUSH, 2, PUSH, 9, PUT, 0, JUMP, 4);
        leavesAll("PUT before the first", BOUNDS, 3, ROOT, 0, PUSH, -1, PUSH, 9, PUT, 0, JUMP, 4);
        leavesAll("PUT on null", TearSafeCard.NULL, 3, ROOT, 1, PUSH, 0, PUSH, 9, PUT, 0, JUMP, 4);
        leavesAll("SHARE over the wall", WALL, 1, FOREIGN, 4, SHARE, 0, JUMP, 2);
        leavesAll("NEW of no length", BOUNDS, 1, PUSH, 0, NEW, 0, JUMP, 2);
        leavesAll("CALL of a method of its own, too deep", TearSafeCard.DEPTH, 1, LOAD, 0, CALL, 1, RETURN, 0);
        leavesAll("BEGIN twice", TearSafeCard.NESTING, 1, BEGIN, 0, BEGIN, 0, JUMP, 2);
        leavesAll("ABORT without a transaction", TearSafeCard.NESTING, 0, ABORT, 0, JUMP, 1);
        leavesAllTorn("PUT", 3, ROOT, 0, PUSH, 0, PUSH, 9, PUT, 0, JUMP, 4);
        leavesAllTorn("SETROOT to null", 1, NULL, 0, SETROOT, 0, JUMP, 2);
        leavesAllTorn("SETROOT of the empty root", 1, FOREIGN, 2, SETROOT, 1, JUMP, 2);
        leavesAllTorn("SHARE", 1, ROOT, 0, SHARE, 0, JUMP, 2);
        leavesAllTorn("NEW", 1, PUSH, 1, NEW, 0, SETROOT, 1, JUMP, 3);
        leavesAllTorn("COMMIT", 1, BEGIN, 0, COMMIT, 0, JUMP, 2);
        callNotBegun();
    }

    private static void leavesAll(String what, int outcome, int at, int... code) {
        TearSafeCard card = cardWithObjects();
        loadGood(card, 0, 1, true, code);
        dueFailed(what, card, 1, 0, outcome, at);
        dueUnchanged(what, card);
    }

    private static void leavesAllTorn(String what, int at, int... code) {
        TearSafeCard card = cardWithObjects();
        loadGood(card, 0, 1, true, code);
        card.tear(0);
        dueFailed(what + ", torn", card, 1, 0, TORN, at);
        dueUnchanged(what + ", torn", card);
    }

    private static void callNotBegun() {
        TearSafeCard card = cardWithObjects();
        loadGood(card, 1, 1, false, NULL, 0, SETROOT, 0, PUSH, 0, RETURN, 0);
        loadGood(card, 0, 1, true, LOAD, 0, CALL, 3, RETURN, 0);
        dueFailed("a CALL over the wall", card, 1, 0, WALL, 1);
        dueUnchanged("a CALL over the wall", card);
    }

    private static void endsTheRun() {
        sentence("and ends the run");
        TearSafeCard card = cardWithObjects();
        loadGood(card, 2, 1, true, LOAD, 0, NEW, 0, DROP, 0, NULL, 0, SETROOT, 0, PUSH, 0, RETURN, 0);
        loadGood(card, 1, 1, true, LOAD, 0, CALL, 5, NULL, 0, SETROOT, 0, RETURN, 0);
        loadGood(card, 0, 1, true, LOAD, 0, CALL, 3, NULL, 0, SETROOT, 0, RETURN, 0);
        dueRun("two methods below", card, 1, 0, BOUNDS, 0, 16 * 5 + 1);
        dueUnchanged("nothing follows, in no method", card);
        dueRun("one method below", card, 3, 5, BOUNDS, 0, 16 * 5 + 1);
        dueUnchanged("nothing follows, in no method", card);
        dueReturned("without the failure all follows", card, 1, 1, 0);
        due("all roots are null", card.held(), 0);
    }

    private static void firstThatHolds() {
        sentence("ends the run with the first that holds");
        leavesAll("NULL before BOUNDS of GET", TearSafeCard.NULL, 2, NULL, 0, PUSH, -1, GET, 0, RETURN, 0);
        leavesAll("NULL before BOUNDS of PUT", TearSafeCard.NULL, 3, NULL, 0, PUSH, 4, PUSH, 1, PUT, 0, JUMP, 4);
        leavesAll("WALL before BOUNDS of GET", WALL, 2, FOREIGN, 2, PUSH, 2, GET, 0, RETURN, 0);
        leavesAll("WALL before BOUNDS of PUT", WALL, 3, FOREIGN, 2, PUSH, -1, PUSH, 1, PUT, 0, JUMP, 4);
        TearSafeCard card = card();
        fillRoots(card);
        loadGood(card, 0, 0, true, PUSH, 1, NEW, 0, PUSH, 1, NEW, 0, LOAD, 0, NEW, 0, JUMP, 6);
        dueFailed("BOUNDS before MEMORY", card, 0, 0, BOUNDS, 5);
        dueFailed("BOUNDS before MEMORY", card, 0, 5, BOUNDS, 5);
        dueFailed("MEMORY where the length is right", card, 0, 4, TearSafeCard.MEMORY, 5);
        beforeDepth();
    }

    /** Method 0 calls itself until three are being run, and then, as the fourth, method 0 of applet 1. */
    private static void beforeDepth() {
        TearSafeCard card = card();
        loadGood(card, 0, 0, true, LOAD, 0, JZERO, 7, LOAD, 0, PUSH, 1, SUB, 0, CALL, 0, RETURN, 0, LOAD, 0, CALL, 2, RETURN, 0);
        dueFailed("ABSENT before DEPTH", card, 0, 3, TearSafeCard.ABSENT, 8);
        loadGood(card, 1, 0, false, PUSH, 6, RETURN, 0);
        dueFailed("WALL before DEPTH", card, 0, 3, WALL, 8);
        loadGood(card, 1, 0, true, PUSH, 6, RETURN, 0);
        dueFailed("DEPTH where the rest is right", card, 0, 3, TearSafeCard.DEPTH, 8);
        dueReturned("nothing where three are being run", card, 0, 2, 6);
    }

    private static void torn() {
        sentence("TORN a WRITE is due and the power fails, see below");
        TearSafeCard card = cardWithObjects();
        loadGood(card, 0, 1, true, ROOT, 0, PUSH, 0, LOAD, 0, PUT, 0, LOAD, 0, RETURN, 0);
        dueReturned("a WRITE while the power does not fail", card, 1, 3, 3);
        card.tear(0);
        dueFailed("a WRITE when it fails", card, 1, 4, TORN, 3);
        due("it is not done", card.element(0, 0, 0), 3);
        card.tear(0);
        loadGood(card, 0, 1, true, ROOT, 0, PUSH, 0, GET, 0, RETURN, 0);
        dueReturned("no WRITE is due", card, 1, 0, 3);
    }

    private static void nothingElseAgainstIt() {
        sentence("A WRITE is due when PUT on a lasting object, SETROOT, SHARE, NEW of a lasting object, or COMMIT has nothing else against it.");
        awaitedStill("NULL before TORN of PUT", TearSafeCard.NULL, 3, NULL, 0, PUSH, 0, PUSH, 1, PUT, 0, JUMP, 4);
        awaitedStill("NULL before TORN of SHARE", TearSafeCard.NULL, 1, NULL, 0, SHARE, 0, JUMP, 2);
        awaitedStill("WALL before TORN of PUT", WALL, 3, FOREIGN, 2, PUSH, 0, PUSH, 1, PUT, 0, JUMP, 4);
        awaitedStill("WALL before TORN of SHARE", WALL, 1, FOREIGN, 2, SHARE, 0, JUMP, 2);
        awaitedStill("BOUNDS before TORN of PUT", BOUNDS, 3, ROOT, 0, PUSH, 2, PUSH, 1, PUT, 0, JUMP, 4);
        awaitedStill("BOUNDS before TORN of NEW", BOUNDS, 1, PUSH, 5, NEW, 0, JUMP, 2);
        awaitedStill("NESTING before TORN of COMMIT", TearSafeCard.NESTING, 0, COMMIT, 0, JUMP, 1);
        TearSafeCard card = card();
        fillRoots(card);
        loadGood(card, 0, 0, true, PUSH, 1, NEW, 1, PUSH, 1, NEW, 1, PUSH, 1, NEW, 0, JUMP, 6);
        card.tear(0);
        dueFailed("MEMORY before TORN of NEW", card, 0, 0, TearSafeCard.MEMORY, 5);
        loadGood(card, 0, 0, true, PUSH, 1, NEW, 0, JUMP, 2);
        dueFailed("the failure is still awaited", card, 0, 0, TORN, 1);
    }

    private static void awaitedStill(String what, int outcome, int at, int... code) {
        TearSafeCard card = cardWithObjects();
        loadGood(card, 0, 1, true, code);
        card.tear(0);
        dueFailed(what, card, 1, 0, outcome, at);
        dueUnchanged(what, card);
        loadGood(card, 0, 1, true, NULL, 0, SETROOT, 0, JUMP, 2);
        dueFailed(what + ": the failure is still awaited", card, 1, 0, TORN, 1);
    }
}

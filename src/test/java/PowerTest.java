/** Promises 7 and 8: tear, reset, and what counts as a WRITE. */
final class PowerTest extends Support {
    public static void main(String[] args) {
        tearAnswers();
        everyWrite();
        noWrites();
        countedOverRuns();
        replaced();
        onlyOnce();
        failuresAreNoWrites();
        tornInTransactions();
        passingElements();
        everyPassingObject();
        resetAlone();
        end();
    }

    /** Applet 0: root 0 refers to a lasting object (5), root 1 to a passing one (6, 7). */
    private static TearSafeCard card() {
        TearSafeCard card = new TearSafeCard(250);
        loadGood(card, 0, 0, true, PUSH, 1, NEW, 0, DUP, 0, SETROOT, 0, PUSH, 0, PUSH, 5, PUT, 0, PUSH, 2, NEW, 1, SETROOT, 1,
            PUSH, 0, RETURN, 0);
        dueReturned("the objects are made", card, 0, 0, 0);
        loadGood(card, 0, 0, true, ROOT, 1, PUSH, 0, PUSH, 6, PUT, 0, ROOT, 1, PUSH, 1, PUSH, 7, PUT, 0, PUSH, 0, RETURN, 0);
        dueReturned("the passing elements are set", card, 0, 0, 0);
        return card;
    }

    private static void tearAnswers() {
        TearSafeCard card = card();
        int[] wrong = {-1, -2, 101, 102, Integer.MIN_VALUE, Integer.MAX_VALUE};
        for (int n : wrong) {
            due("tear(" + n + ")", card.tear(n), -1);
        }
        for (int n = 0; n <= 100; n++) {
            due("tear(" + n + ")", card.tear(n), n);
        }
    }

    private static void everyWrite() {
        write("PUT on a lasting object", 3, ROOT, 0, PUSH, 0, PUSH, 9, PUT, 0, PUSH, 1, RETURN, 0);
        write("SETROOT", 1, NULL, 0, SETROOT, 0, PUSH, 1, RETURN, 0);
        write("SHARE of a lasting object", 1, ROOT, 0, SHARE, 0, PUSH, 1, RETURN, 0);
        write("SHARE of a passing object", 1, ROOT, 1, SHARE, 0, PUSH, 1, RETURN, 0);
        write("NEW of a lasting object", 1, PUSH, 1, NEW, 0, LENGTH, 0, RETURN, 0);
        write("COMMIT", 1, BEGIN, 0, COMMIT, 0, PUSH, 1, RETURN, 0);
    }

    /** The code has one WRITE, at the place told, and answers 1. */
    private static void write(String what, int at, int... code) {
        TearSafeCard card = card();
        loadGood(card, 0, 1, true, code);
        card.tear(0);
        dueFailed(what + " is torn", card, 1, 0, TearSafeCard.TORN, at);
        due(what + " is not done: element", card.element(0, 0, 0), 5);
        due(what + " is not done: traits", card.traits(0, 0), 2);
        due(what + " is not done: traits", card.traits(0, 1), 0);
        due("passing elements are lost", card.element(0, 1, 0), 0);
        card.tear(1);
        dueReturned(what + " as the WRITE before", card, 1, 0, 1);
        card.tear(-1);
        dueReturned(what + " with none awaited", card, 1, 0, 1);
    }

    private static void noWrites() {
        TearSafeCard card = card();
        card.tear(0);
        loadGood(card, 0, 1, true, ROOT, 1, PUSH, 1, PUSH, 9, PUT, 0, PUSH, 2, NEW, 1, LENGTH, 0, RETURN, 0);
        dueReturned("PUT on a passing object, NEW of one", card, 1, 0, 2);
        loadGood(card, 0, 1, true, BEGIN, 0, ABORT, 0, ROOT, 0, PUSH, 0, GET, 0, FOREIGN, 0, LENGTH, 0, ADD, 0, STORE, 1,
            LOAD, 1, DUP, 0, DROP, 0, RETURN, 0);
        dueReturned("BEGIN, ABORT, GET, LENGTH", card, 1, 0, 6);
        loadGood(card, 0, 1, true, BEGIN, 0, PUSH, 3, RETURN, 0);
        dueReturned("a transaction that the end of the run undoes", card, 1, 0, 3);
        due("the passing element is not lost", card.element(0, 1, 1), 9);
        loadGood(card, 0, 1, true, NULL, 0, SETROOT, 0, PUSH, 3, RETURN, 0);
        dueFailed("the failure is still awaited", card, 1, 0, TearSafeCard.TORN, 1);
    }

    private static void countedOverRuns() {
        int[] counts = {0, 1, 2, 7, 99, 100};
        for (int n : counts) {
            TearSafeCard card = card();
            loadGood(card, 0, 1, true, ROOT, 0, PUSH, 0, LOAD, 0, PUT, 0, LOAD, 0, RETURN, 0);
            due("tear", card.tear(n), n);
            for (int time = 1; time <= n; time++) {
                due("WRITE " + time + " of " + n, card.run(0, 1, 100 + time), TearSafeCard.RETURNED);
            }
            dueFailed("the WRITE after " + n, card, 1, 99, TearSafeCard.TORN, 3);
            due("what was written", card.element(0, 0, 0), n == 0 ? 5 : 100 + n);
            due("the next run", card.run(0, 1, 77), TearSafeCard.RETURNED);
        }
    }

    private static TearSafeCard writingCard() {
        TearSafeCard card = card();
        loadGood(card, 0, 1, true, ROOT, 0, PUSH, 0, LOAD, 0, PUT, 0, LOAD, 0, RETURN, 0);
        return card;
    }

    private static void replaced() {
        TearSafeCard card = writingCard();
        card.tear(0);
        due("none awaited", card.tear(-1), -1);
        dueReturned("after tear(-1)", card, 1, 1, 1);
        card.tear(0);
        due("none awaited", card.tear(101), -1);
        dueReturned("after tear(101)", card, 1, 2, 2);
        card.tear(0);
        card.tear(1);
        dueReturned("a later one in its place", card, 1, 3, 3);
        dueFailed("torn", card, 1, 4, TearSafeCard.TORN, 3);
        card.tear(50);
        card.tear(0);
        dueFailed("an earlier one in its place", card, 1, 5, TearSafeCard.TORN, 3);
        due("the element", card.element(0, 0, 0), 3);
    }

    private static void onlyOnce() {
        TearSafeCard card = writingCard();
        card.tear(2);
        dueReturned("first", card, 1, 1, 1);
        dueReturned("second", card, 1, 2, 2);
        dueFailed("third", card, 1, 3, TearSafeCard.TORN, 3);
        for (int time = 0; time < 110; time++) {
            due("no failure is awaited any more", card.run(0, 1, time), TearSafeCard.RETURNED);
        }
    }

    /** An instruction that something else stands against is not counted. */
    private static void failuresAreNoWrites() {
        TearSafeCard card = writingCard();
        loadGood(card, 1, 0, true, FOREIGN, 0, PUSH, 0, PUSH, 1, PUT, 0, PUSH, 0, RETURN, 0);
        loadGood(card, 1, 1, true, FOREIGN, 0, SHARE, 0, PUSH, 0, RETURN, 0);
        loadGood(card, 2, 0, true, LOAD, 0, NEW, 0, LENGTH, 0, RETURN, 0);
        loadGood(card, 2, 1, true, ROOT, 0, PUSH, 0, PUSH, 1, PUT, 0, PUSH, 0, RETURN, 0);
        card.tear(0);
        dueFailed("PUT over the wall", card, 2, 0, TearSafeCard.WALL, 3);
        dueFailed("SHARE over the wall", card, 3, 0, TearSafeCard.WALL, 1);
        dueFailed("NEW of a wrong length", card, 4, 0, TearSafeCard.BOUNDS, 1);
        dueFailed("PUT on null", card, 5, 0, TearSafeCard.NULL, 3);
        loadGood(card, 1, 1, true, COMMIT, 0, PUSH, 0, RETURN, 0);
        dueFailed("COMMIT without a transaction", card, 3, 0, TearSafeCard.NESTING, 0);
        due("no power is lost by these", card.element(0, 1, 0), 6);
        card.tear(1);
        dueFailed("PUT over the wall", card, 2, 0, TearSafeCard.WALL, 3);
        dueFailed("NEW of a wrong length", card, 4, 5, TearSafeCard.BOUNDS, 1);
        dueReturned("a WRITE that is counted", card, 1, 44, 44);
        dueFailed("the next one", card, 1, 45, TearSafeCard.TORN, 3);
    }

    private static void tornInTransactions() {
        int[] code = {BEGIN, 0, ROOT, 0, PUSH, 0, PUSH, 9, PUT, 0, ROOT, 0, DUP, 0, SHARE, 0, SETROOT, 1, COMMIT, 0, PUSH, 1, RETURN, 0};
        int[] places = {4, 7, 8, 9};
        for (int n = 0; n < places.length; n++) {
            TearSafeCard card = card();
            loadGood(card, 0, 1, true, code);
            card.tear(n);
            dueFailed("torn at WRITE " + n, card, 1, 0, TearSafeCard.TORN, places[n]);
            due("the element of BEGIN", card.element(0, 0, 0), 5);
            due("the traits of BEGIN", card.traits(0, 0), 2);
            due("the root of BEGIN", card.same(0, 1), false);
            due("the passing object has lost its elements", card.element(0, 1, 1), 0);
            dueReturned("the same run again", card, 1, 0, 1);
            due("the element", card.element(0, 0, 0), 9);
            due("the traits", card.traits(0, 0), 3);
            due("the root", card.same(0, 1), true);
        }
        TearSafeCard card = card();
        loadGood(card, 0, 1, true, ROOT, 0, PUSH, 0, PUSH, 9, PUT, 0, NULL, 0, SETROOT, 1, PUSH, 1, RETURN, 0);
        card.tear(1);
        dueFailed("torn without a transaction", card, 1, 0, TearSafeCard.TORN, 5);
        due("what is written stays", card.element(0, 0, 0), 9);
    }

    private static void passingElements() {
        TearSafeCard card = card();
        due("before", card.element(0, 1, 0), 6);
        loadGood(card, 1, 1, true, PUSH, 4, NEW, 1, DUP, 0, SETROOT, 0, PUSH, 3, PUSH, 8, PUT, 0, NULL, 0, SETROOT, 1, PUSH, 1,
            RETURN, 0);
        card.tear(1);
        dueFailed("another applet's run is torn", card, 3, 0, TearSafeCard.TORN, 8);
        due("elements of every applet's passing objects", card.element(0, 1, 0), 0);
        due("elements of every applet's passing objects", card.element(0, 1, 1), 0);
        due("elements of every applet's passing objects", card.element(1, 0, 3), 0);
        due("the objects stay", card.length(0, 1), 2);
        due("the objects stay", card.traits(1, 0), 4);
        due("lasting elements stay", card.element(0, 0, 0), 5);
    }

    /** Six passing objects in the roots, and then one that was made while seven others were held. */
    private static void everyPassingObject() {
        TearSafeCard card = new TearSafeCard(250);
        for (int number = 0; number < 6; number++) {
            fillPassing(card, number, PUSH, 0, DROP, 0);
        }
        dueAllPassing("before", card, 8);
        card.reset();
        dueAllPassing("after reset", card, 0);
        fillPassing(card, 4, PUSH, 1, NEW, 0);
        due("the eighth object's element", card.element(2, 0, 3), 8);
        card.reset();
        due("the eighth object's element after reset", card.element(2, 0, 3), 0);
        due("the eighth object's length", card.length(2, 0), 4);
    }

    private static void fillPassing(TearSafeCard card, int number, int op1, int b1, int op2, int b2) {
        int root = number % 2;
        loadGood(card, number / 2, 0, true, op1, b1, op2, b2, PUSH, 4, NEW, 1, SETROOT, root, ROOT, root, PUSH, 3, PUSH, 8, PUT, 0,
            ROOT, root, PUSH, 0, PUSH, 8, PUT, 0, PUSH, 0, RETURN, 0);
        dueReturned("a passing object", card, number / 2 * 2, 0, 0);
    }

    private static void dueAllPassing(String what, TearSafeCard card, int element) {
        for (int number = 0; number < 6; number++) {
            due(what + ": first element of " + number, card.element(number / 2, number % 2, 0), element);
            due(what + ": last element of " + number, card.element(number / 2, number % 2, 3), element);
        }
    }

    private static void resetAlone() {
        TearSafeCard card = writingCard();
        loadGood(card, 1, 0, true, PUSH, 1, NEW, 0, DUP, 0, SHARE, 0, SETROOT, 0, PUSH, 1, RETURN, 0);
        dueReturned("a shared object", card, 2, 0, 1);
        card.put(PUSH, 12);
        card.tear(0);
        card.reset();
        dueReturned("no failure is awaited any more", card, 1, 3, 3);
        due("passing element 0", card.element(0, 1, 0), 0);
        due("passing element 1", card.element(0, 1, 1), 0);
        due("the passing object's length", card.length(0, 1), 2);
        due("lasting traits", card.traits(1, 0), 7);
        due("roots stay", card.held(), 3);
        due("pending code stays", card.put(RETURN, 0), 2);
        due("pending code stays", card.install(2, 0, false), 2);
        card.reset();
        due("result stays", card.result(), 3);
        dueReturned("methods stay", card, 4, 0, 12);
        due("lasting elements stay", card.element(0, 0, 0), 3);
    }
}

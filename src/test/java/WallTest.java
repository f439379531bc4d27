import java.util.Arrays;

/** Promise 4: the wall between the applets' objects, and which objects are held. */
final class WallTest extends Support {
    public static void main(String[] args) {
        privateObjects();
        sharedObjects();
        onlyTheOwnerShares();
        wallComesBeforeBounds();
        foreignRoots();
        ownRoots();
        heldByRootsAndEntries();
        heldByLocals();
        heldByCallers();
        heldSinceBegin();
        heldByEveryWayToAReference();
        numbersHoldNothing();
        memoryOrder();
        end();
    }

    /** Applet 0 has a private lasting object of 2 elements (5, 6) at root 0. */
    private static TearSafeCard card() {
        TearSafeCard card = new TearSafeCard(250);
        loadGood(card, 0, 0, true, PUSH, 2, NEW, 0, DUP, 0, DUP, 0, SETROOT, 0, PUSH, 0, PUSH, 5, PUT, 0, PUSH, 1, PUSH, 6,
            PUT, 0, PUSH, 0, RETURN, 0);
        dueReturned("the object is made", card, 0, 0, 0);
        loadGood(card, 0, 1, true, ROOT, 0, SHARE, 0, PUSH, 1, RETURN, 0);
        return card;
    }

    private static void loadAccesses(TearSafeCard card, int applet) {
        loadGood(card, applet, 0, true, FOREIGN, 0, LOAD, 0, GET, 0, RETURN, 0);
        loadGood(card, applet, 1, true, FOREIGN, 0, LOAD, 0, PUSH, 9, PUT, 0, FOREIGN, 0, LENGTH, 0, RETURN, 0);
    }

    private static void privateObjects() {
        for (int applet = 1; applet < 3; applet++) {
            TearSafeCard card = card();
            loadAccesses(card, applet);
            dueFailed("GET", card, 2 * applet, 0, TearSafeCard.WALL, 2);
            dueFailed("PUT", card, 2 * applet + 1, 0, TearSafeCard.WALL, 3);
            loadGood(card, applet, 0, true, FOREIGN, 0, LENGTH, 0, RETURN, 0);
            dueFailed("LENGTH", card, 2 * applet, 0, TearSafeCard.WALL, 1);
            due("the element stays", card.element(0, 0, 0), 5);
            due("traits stay", card.traits(0, 0), 2);
        }
        TearSafeCard card = card();
        loadAccesses(card, 0);
        dueReturned("the owner's GET through FOREIGN", card, 0, 1, 6);
        dueReturned("the owner's PUT and LENGTH", card, 1, 0, 2);
        due("the element", card.element(0, 0, 0), 9);
    }

    private static void sharedObjects() {
        TearSafeCard card = card();
        loadAccesses(card, 1);
        dueReturned("SHARE", card, 1, 0, 1);
        due("traits of a shared object", card.traits(0, 0), 3);
        dueReturned("GET", card, 2, 1, 6);
        dueReturned("PUT and LENGTH", card, 3, 1, 2);
        due("the element", card.element(0, 0, 1), 9);
        dueFailed("BOUNDS on a shared object", card, 2, 2, TearSafeCard.BOUNDS, 2);
        dueReturned("SHARE once more", card, 1, 0, 1);
        due("traits of an object shared twice", card.traits(0, 0), 3);
    }

    private static void onlyTheOwnerShares() {
        TearSafeCard card = card();
        loadGood(card, 2, 0, true, FOREIGN, 0, SHARE, 0, PUSH, 1, RETURN, 0);
        dueFailed("SHARE of another's private object", card, 4, 0, TearSafeCard.WALL, 1);
        due("it stays private", card.traits(0, 0), 2);
        dueReturned("the owner's SHARE", card, 1, 0, 1);
        dueFailed("SHARE of another's shared object", card, 4, 0, TearSafeCard.WALL, 1);
        loadGood(card, 2, 0, true, LOAD, 0, CALL, 1, RETURN, 0);
        dueReturned("the owner's SHARE, called by another", card, 4, 0, 1);
    }

    private static void wallComesBeforeBounds() {
        TearSafeCard card = card();
        loadAccesses(card, 1);
        dueFailed("GET with a wrong index", card, 2, 7, TearSafeCard.WALL, 2);
        dueFailed("PUT with a wrong index", card, 3, -1, TearSafeCard.WALL, 3);
    }

    private static void foreignRoots() {
        TearSafeCard card = new TearSafeCard(250);
        for (int number = 0; number < 6; number++) {
            loadGood(card, number / 2, 0, true, PUSH, 1, NEW, 0, DUP, 0, SETROOT, number % 2, SHARE, 0, ROOT, number % 2,
                PUSH, 0, PUSH, 40 + number, PUT, 0, PUSH, 0, RETURN, 0);
            dueReturned("a root is set", card, number / 2 * 2, 0, 0);
        }
        for (int number = 0; number < 6; number++) {
            loadGood(card, 1, 1, true, FOREIGN, number, PUSH, 0, GET, 0, RETURN, 0);
            dueReturned("FOREIGN " + number, card, 3, 0, 40 + number);
            due("element of root " + number, card.element(number / 2, number % 2, 0), 40 + number);
        }
    }

    private static void ownRoots() {
        TearSafeCard card = new TearSafeCard(250);
        for (int applet = 0; applet < 3; applet++) {
            loadGood(card, applet, 0, true, PUSH, 1 + applet, NEW, 1, SETROOT, 1, ROOT, 1, LENGTH, 0, RETURN, 0);
        }
        loadGood(card, 0, 1, true, LOAD, 0, CALL, 4, RETURN, 0);
        dueReturned("ROOT and SETROOT of a called applet", card, 1, 0, 3);
        due("its own root", card.traits(2, 1), 8);
        due("not the caller's", card.length(0, 1), 0);
        dueReturned("its own", card, 2, 0, 2);
        due("its own root", card.traits(1, 1), 4);
    }

    private static TearSafeCard sixRoots() {
        TearSafeCard card = new TearSafeCard(250);
        fillRoots(card);
        return card;
    }

    private static void heldByRootsAndEntries() {
        TearSafeCard card = sixRoots();
        loadGood(card, 0, 1, true, PUSH, 1, NEW, 0, PUSH, 1, NEW, 1, PUSH, 1, NEW, 0, LOAD, 0, RETURN, 0);
        dueFailed("a ninth object", card, 1, 0, TearSafeCard.MEMORY, 5);
        dueFailed("the entries are gone after the run", card, 1, 0, TearSafeCard.MEMORY, 5);
        loadGood(card, 0, 1, true, PUSH, 1, NEW, 0, PUSH, 1, NEW, 0, DROP, 0, PUSH, 1, NEW, 0, DROP, 0, PUSH, 3, NEW, 1,
            LENGTH, 0, RETURN, 0);
        dueReturned("a dropped one makes room", card, 1, 0, 3);
        loadGood(card, 0, 1, true, ROOT, 0, DUP, 0, FOREIGN, 5, PUSH, 1, NEW, 0, DROP, 0, DROP, 0, PUSH, 4, NEW, 0,
            LENGTH, 0, RETURN, 0);
        dueReturned("one object counts once", card, 1, 0, 4);
        loadGood(card, 0, 1, true, PUSH, 1, NEW, 0, PUSH, 1, NEW, 0, NULL, 0, SETROOT, 0, PUSH, 4, NEW, 0, LENGTH, 0, RETURN, 0);
        dueReturned("a root set to null makes room", card, 1, 0, 4);
        due("five are held", card.held(), 5);
    }

    private static void heldByLocals() {
        TearSafeCard card = sixRoots();
        loadGood(card, 0, 1, true, PUSH, 1, NEW, 0, STORE, 0, PUSH, 1, NEW, 0, STORE, 1, PUSH, 1, NEW, 1, LENGTH, 0, RETURN, 0);
        dueFailed("two locals hold", card, 1, 0, TearSafeCard.MEMORY, 7);
        loadGood(card, 0, 1, true, PUSH, 1, NEW, 0, STORE, 1, PUSH, 1, NEW, 0, STORE, 1, PUSH, 1, NEW, 0, STORE, 1,
            PUSH, 3, NEW, 0, LENGTH, 0, RETURN, 0);
        dueReturned("a local that is set again lets go", card, 1, 0, 3);
        loadGood(card, 0, 1, true, PUSH, 1, NEW, 0, STORE, 0, PUSH, 1, NEW, 0, STORE, 1, PUSH, 8, STORE, 1,
            PUSH, 2, NEW, 0, LENGTH, 0, RETURN, 0);
        dueReturned("a number in a local holds nothing", card, 1, 0, 2);
    }

    private static void heldByCallers() {
        TearSafeCard card = sixRoots();
        loadGood(card, 0, 0, true, PUSH, 1, NEW, 0, STORE, 1, PUSH, 1, NEW, 0, LOAD, 0, CALL, 1, RETURN, 0);
        loadGood(card, 0, 1, true, PUSH, 1, NEW, 0, LENGTH, 0, RETURN, 0);
        dueRun("a caller's local and entry hold", card, 0, 0, TearSafeCard.MEMORY, 0, 17);
        loadGood(card, 0, 0, true, PUSH, 1, NEW, 0, STORE, 1, LOAD, 0, CALL, 1, RETURN, 0);
        dueReturned("a caller's local alone", card, 0, 0, 1);
        loadGood(card, 0, 1, true, PUSH, 1, NEW, 0, STORE, 1, PUSH, 1, NEW, 0, LENGTH, 0, RETURN, 0);
        loadGood(card, 0, 0, true, LOAD, 0, CALL, 1, CALL, 1, CALL, 1, PUSH, 1, NEW, 0, PUSH, 4, NEW, 0, LENGTH, 0, RETURN, 0);
        dueReturned("a method that has answered holds nothing", card, 0, 0, 4);
        loadGood(card, 0, 0, true, PUSH, 0, CALL, 1, DROP, 0, PUSH, 0, CALL, 3, RETURN, 0);
        loadGood(card, 1, 1, true, PUSH, 1, NEW, 0, PUSH, 3, NEW, 0, LENGTH, 0, RETURN, 0);
        dueReturned("an unset local holds nothing", card, 0, 0, 3);
    }

    private static void heldSinceBegin() {
        TearSafeCard card = sixRoots();
        loadGood(card, 0, 1, true, BEGIN, 0, NULL, 0, SETROOT, 0, NULL, 0, SETROOT, 1, PUSH, 1, NEW, 0, PUSH, 1, NEW, 0,
            PUSH, 4, NEW, 0, LENGTH, 0, RETURN, 0);
        dueFailed("roots at BEGIN hold", card, 1, 0, TearSafeCard.MEMORY, 10);
        due("the roots are back", card.held(), 6);
        loadGood(card, 0, 1, true, BEGIN, 0, NULL, 0, SETROOT, 0, NULL, 0, SETROOT, 1, PUSH, 1, NEW, 0, PUSH, 1, NEW, 0,
            COMMIT, 0, PUSH, 4, NEW, 0, LENGTH, 0, RETURN, 0);
        dueReturned("after COMMIT they do not", card, 1, 0, 4);
        due("four are held", card.held(), 4);
        card = sixRoots();
        loadGood(card, 0, 1, true, BEGIN, 0, NULL, 0, SETROOT, 0, ABORT, 0, PUSH, 1, NEW, 0, PUSH, 1, NEW, 0, PUSH, 1, NEW, 0,
            LENGTH, 0, RETURN, 0);
        dueFailed("after ABORT the roots hold", card, 1, 0, TearSafeCard.MEMORY, 9);
    }

    /** A reference goes on holding its object when the root that it came from has let go. */
    private static void heldByEveryWayToAReference() {
        dueHolds("ROOT", ROOT, 0, DUP, 0, DROP, 0, BEGIN, 0, COMMIT, 0);
        dueHolds("FOREIGN", FOREIGN, 0, DUP, 0, DROP, 0, BEGIN, 0, COMMIT, 0);
        dueHolds("DUP", ROOT, 0, DUP, 0, STORE, 0, PUSH, 0, STORE, 0);
        dueHolds("STORE 1", ROOT, 0, STORE, 1, PUSH, 0, DUP, 0, DROP, 0);
        dueHolds("STORE 0 and LOAD", ROOT, 0, STORE, 0, LOAD, 0, PUSH, 0, STORE, 0);
    }

    private static void dueHolds(String what, int... first) {
        TearSafeCard card = sixRoots();
        int[] then = {NULL, 0, SETROOT, 0, PUSH, 1, NEW, 0, PUSH, 1, NEW, 0, STORE, 0, PUSH, 1, NEW, 0, LENGTH, 0, RETURN, 0};
        int[] code = Arrays.copyOf(first, first.length + then.length);
        System.arraycopy(then, 0, code, first.length, then.length);
        loadGood(card, 0, 1, true, code);
        dueFailed(what + " holds", card, 1, 0, TearSafeCard.MEMORY, first.length / 2 + 8);
    }

    /** No number, however it came to be, is looked at as if it referred to something. */
    private static void numbersHoldNothing() {
        int[] numbers = {-32768, -1, 7, 8, 9, 100, 32767};
        for (int number : numbers) {
            TearSafeCard card = sixRoots();
            loadGood(card, 1, 1, true, LOAD, 0, RETURN, 0);
            loadGood(card, 0, 1, true, LOAD, 0, CALL, 3, LOAD, 0, PUSH, 0, SUB, 0, STORE, 1, PUSH, 1, NEW, 0, PUSH, 2, NEW, 0,
                LENGTH, 0, RETURN, 0);
            dueReturned("a call's answer, a difference and an argument " + number, card, 1, number, 2);
            loadGood(card, 0, 1, true, PUSH, 1, NEW, 0, DUP, 0, PUSH, 0, LOAD, 0, PUT, 0, PUSH, 0, GET, 0, PUSH, 1, NEW, 0,
                PUSH, 3, NEW, 0, LENGTH, 0, RETURN, 0);
            dueReturned("an element " + number, card, 1, number, 3);
        }
        TearSafeCard card = sixRoots();
        loadGood(card, 1, 0, true, PUSH, 4, NEW, 0, DUP, 0, SHARE, 0, SETROOT, 1, NULL, 0, SETROOT, 0, PUSH, 0, RETURN, 0);
        dueReturned("an object of length 4 in place of two", card, 2, 0, 0);
        loadGood(card, 0, 1, true, FOREIGN, 3, LENGTH, 0, PUSH, 1, NEW, 0, PUSH, 1, NEW, 0, NULL, 0, SETROOT, 0, PUSH, 1, NEW, 0,
            LENGTH, 0, RETURN, 0);
        dueReturned("a length", card, 1, 0, 1);
        endedMethodsHoldNothing();
    }

    /** A number put where an ended method had a reference is a number; what that method left behind is nothing. */
    private static void endedMethodsHoldNothing() {
        TearSafeCard card = sixRoots();
        loadGood(card, 0, 0, true, PUSH, 0, CALL, 1, PUSH, 77, CALL, 3, RETURN, 0);
        loadGood(card, 0, 1, true, PUSH, 1, NEW, 0, STORE, 0, PUSH, 1, NEW, 0, STORE, 1, PUSH, 0, RETURN, 0);
        loadGood(card, 1, 1, true, PUSH, 1, NEW, 0, PUSH, 3, NEW, 0, LENGTH, 0, RETURN, 0);
        dueReturned("references in an ended method's locals", card, 0, 0, 3);
        loadGood(card, 0, 1, true, PUSH, 1, NEW, 0, PUSH, 1, NEW, 0, PUSH, 0, RETURN, 0);
        dueReturned("references in an ended method's stack", card, 0, 0, 3);
    }

    private static void memoryOrder() {
        TearSafeCard card = sixRoots();
        loadGood(card, 0, 1, true, PUSH, 1, NEW, 0, PUSH, 1, NEW, 0, LOAD, 0, NEW, 0, LENGTH, 0, RETURN, 0);
        dueFailed("BOUNDS before MEMORY", card, 1, 5, TearSafeCard.BOUNDS, 5);
        due("tear", card.tear(2), 2);
        dueFailed("MEMORY before TORN", card, 1, 1, TearSafeCard.MEMORY, 5);
        dueFailed("the failure is still awaited", card, 1, 1, TearSafeCard.TORN, 1);
    }
}

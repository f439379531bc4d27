/** The edges that the paragraph on transactions names, sentence by sentence. */
final class TransactionEdgeTest extends Support {
    private static final int RETURNED = TearSafeCard.RETURNED;
    private static final int TORN = TearSafeCard.TORN;

    public static void main(String[] args) {
        everyWayOut();
        everyWriteTorn();
        fromBegin();
        allRoots();
        allElements();
        whatIsShared();
        eighthObject();
        passingElements();
        madeSince();
        commit();
        end();
    }

    /**
     * Applet 0 has a lasting object (1, 2, 3, 4) and a passing one (5, 6), applet 1 a lasting and shared one (7) in root 0,
     * applet 2 a lasting one of length 3 in root 0. Methods 1, 2 and 4 change them, as dueChanged says, in eight WRITEs.
     */
    private static TearSafeCard card() {
        TearSafeCard card = new TearSafeCard(250);
        loadGood(card, 0, 0, true, PUSH, 4, NEW, 0, SETROOT, 0, PUSH, 2, NEW, 1, SETROOT, 1, PUSH, 0, RETURN, 0);
        dueReturned("the objects of applet 0", card, 0, 0, 0);
        for (int index = 0; index < 4; index++) {
            putInto(card, 0, index, 1 + index);
        }
        putInto(card, 1, 0, 5);
        putInto(card, 1, 1, 6);
        loadGood(card, 1, 0, true, PUSH, 1, NEW, 0, DUP, 0, DUP, 0, SETROOT, 0, SHARE, 0, PUSH, 0, PUSH, 7, PUT, 0, PUSH, 0, RETURN, 0);
        dueReturned("the object of applet 1", card, 2, 0, 0);
        loadGood(card, 2, 0, true, PUSH, 3, NEW, 0, SETROOT, 0, PUSH, 0, RETURN, 0);
        dueReturned("the object of applet 2", card, 4, 0, 0);
        loadGood(card, 0, 1, true, ROOT, 0, PUSH, 0, PUSH, 91, PUT, 0, ROOT, 0, PUSH, 3, PUSH, 94, PUT, 0, ROOT, 0, SHARE, 0,
            ROOT, 1, PUSH, 1, PUSH, 92, PUT, 0, PUSH, 1, RETURN, 0);
        loadGood(card, 1, 0, true, ROOT, 0, PUSH, 0, PUSH, 93, PUT, 0, PUSH, 2, NEW, 0, SETROOT, 1, PUSH, 1, RETURN, 0);
        loadGood(card, 2, 0, true, NULL, 0, SETROOT, 0, FOREIGN, 0, SETROOT, 1, PUSH, 1, RETURN, 0);
        return card;
    }

    private static void putInto(TearSafeCard card, int root, int index, int number) {
        loadGood(card, 0, 0, true, ROOT, root, PUSH, index, PUSH, number, PUT, 0, PUSH, 0, RETURN, 0);
        dueReturned("an element", card, 0, 0, 0);
    }

    /** Begins, makes all changes, and has a 1 on its stack when it goes on, as instruction 7, with the rest. */
    private static int[] changing(int... rest) {
        return join(code(BEGIN, 0, ROOT, 1, SHARE, 0, PUSH, 1, CALL, 1, CALL, 2, CALL, 4), rest);
    }

    private static void dueAsAtBegin(String what, TearSafeCard card) {
        for (int index = 0; index < 4; index++) {
            due(what + ": element " + index, card.element(0, 0, index), 1 + index);
        }
        due(what + ": not shared", card.traits(0, 0), 2);
        due(what + ": not shared", card.traits(0, 1), 0);
        due(what + ": applet 1's element", card.element(1, 0, 0), 7);
        due(what + ": shared as it was", card.traits(1, 0), 7);
        due(what + ": a null root", card.length(1, 1), 0);
        due(what + ": applet 2's root", card.length(2, 0), 3);
        due(what + ": a null root", card.length(2, 1), 0);
        due(what + ": held", card.held(), 4);
    }

    private static void dueChanged(String what, TearSafeCard card) {
        due(what + ": element 0", card.element(0, 0, 0), 91);
        due(what + ": element 1", card.element(0, 0, 1), 2);
        due(what + ": element 3", card.element(0, 0, 3), 94);
        due(what + ": shared", card.traits(0, 0), 3);
        due(what + ": shared", card.traits(0, 1), 1);
        due(what + ": applet 1's element", card.element(1, 0, 0), 93);
        due(what + ": applet 1's new object", card.length(1, 1), 2);
        due(what + ": applet 2's null root", card.length(2, 0), 0);
        due(what + ": applet 2's other root", card.same(0, 5), true);
        due(what + ": held", card.held(), 4);
    }

    private static void duePassing(String what, TearSafeCard card, int first, int second) {
        due(what + ": passing element 0", card.element(0, 1, 0), first);
        due(what + ": passing element 1", card.element(0, 1, 1), second);
    }

    private static void everyWayOut() {
        sentence("In a transaction (from BEGIN to COMMIT) ABORT, the end of the run, or a failure make all roots, all elements of "
            + "lasting objects and what is shared what they were at BEGIN");
        undone("ABORT", RETURNED, -1, ABORT, 0, RETURN, 0);
        undone("the end of the run", RETURNED, -1, RETURN, 0);
        undone("STEPS", TearSafeCard.STEPS, 7, JUMP, 7);
        undone("NULL", TearSafeCard.NULL, 8, NULL, 0, LENGTH, 0, RETURN, 0);
        undone("WALL", TearSafeCard.WALL, 8, FOREIGN, 3, LENGTH, 0, RETURN, 0);
        undone("BOUNDS", TearSafeCard.BOUNDS, 8, PUSH, 0, NEW, 1, JUMP, 9);
        undone("ABSENT", TearSafeCard.ABSENT, 7, CALL, 5, RETURN, 0);
        undone("DEPTH", TearSafeCard.DEPTH, 48 + 1, CALL, 3, RETURN, 0);
        undone("MEMORY", TearSafeCard.MEMORY, 13, NEW, 1, PUSH, 1, NEW, 1, PUSH, 1, NEW, 1, PUSH, 1, NEW, 1, JUMP, 14);
        undone("NESTING", TearSafeCard.NESTING, 7, BEGIN, 0, RETURN, 0);
    }

    private static void undone(String what, int outcome, int place, int... rest) {
        TearSafeCard card = card();
        loadGood(card, 1, 1, true, LOAD, 0, CALL, 3, RETURN, 0);
        loadGood(card, 0, 0, true, changing(rest));
        dueAsAtBegin("before " + what, card);
        dueRun(what, card, 0, 0, outcome, outcome == RETURNED ? 1 : 0, place);
        dueAsAtBegin(what, card);
        duePassing(what, card, 5, 92);
        dueRun(what + " once more", card, 0, 0, outcome, outcome == RETURNED ? 1 : 0, place);
        dueAsAtBegin(what + " once more", card);
    }

    /** SHARE, two PUTs, SHARE, PUT, NEW, three SETROOTs and COMMIT. */
    private static void everyWriteTorn() {
        sentence("or a failure make all roots, all elements of lasting objects and what is shared what they were at BEGIN");
        int[] places = {2, 16 + 3, 16 + 7, 16 + 9, 32 + 3, 32 + 5, 32 + 6, 64 + 1, 64 + 3, 7};
        for (int n = 0; n < places.length; n++) {
            TearSafeCard card = card();
            loadGood(card, 0, 0, true, changing(COMMIT, 0, RETURN, 0));
            card.tear(n);
            dueRun("torn after " + n, card, 0, 0, TORN, 0, places[n]);
            dueAsAtBegin("torn after " + n, card);
            duePassing("torn after " + n, card, 0, 0);
            dueReturned("not torn again", card, 0, 0, 1);
            dueChanged("not torn again", card);
        }
    }

    private static void fromBegin() {
        sentence("(from BEGIN to COMMIT)");
        TearSafeCard card = card();
        loadGood(card, 0, 0, true, ROOT, 1, SHARE, 0, PUSH, 1, CALL, 1, CALL, 2, CALL, 4, BEGIN, 0, ROOT, 0, PUSH, 0, PUSH, 55, PUT, 0,
            ABORT, 0, RETURN, 0);
        dueReturned("what was done before BEGIN", card, 0, 0, 1);
        dueChanged("stays at ABORT", card);
        card = card();
        loadGood(card, 0, 0, true, BEGIN, 0, COMMIT, 0, ROOT, 1, SHARE, 0, PUSH, 1, CALL, 1, CALL, 2, CALL, 4, BEGIN, 0, ABORT, 0,
            RETURN, 0);
        dueReturned("what was done between two transactions", card, 0, 0, 1);
        dueChanged("stays", card);
        card = card();
        loadGood(card, 0, 0, true, ROOT, 1, SHARE, 0, PUSH, 1, CALL, 1, CALL, 2, CALL, 4, COMMIT, 0, RETURN, 0);
        dueFailed("a failure without a transaction", card, 0, 0, TearSafeCard.NESTING, 6);
        dueChanged("undoes nothing", card);
    }

    private static void allRoots() {
        sentence("make all roots");
        for (int root = 0; root < 6; root++) {
            TearSafeCard card = new TearSafeCard(250);
            fillRoots(card);
            int setter = root / 2 * 2 + 1;
            int beginner = (setter + 2) % 6;
            loadGood(card, beginner / 2, 1, true, BEGIN, 0, LOAD, 0, CALL, setter, RETURN, 0);
            loadGood(card, setter / 2, 1, true, NULL, 0, SETROOT, root % 2, LOAD, 0, RETURN, 0);
            dueReturned("root " + root + " set to null", card, beginner, 0, 0);
            due("root " + root, card.length(root / 2, root % 2), 1 + root % 2);
            loadGood(card, setter / 2, 1, true, PUSH, 4, NEW, 0, SETROOT, root % 2, LOAD, 0, RETURN, 0);
            dueReturned("root " + root + " set to a new object", card, beginner, 0, 0);
            due("root " + root, card.length(root / 2, root % 2), 1 + root % 2);
            loadGood(card, setter / 2, 1, true, FOREIGN, (root + 1) % 6, SETROOT, root % 2, LOAD, 0, RETURN, 0);
            dueReturned("root " + root + " set to another root's object", card, beginner, 0, 0);
            due("root " + root, card.same(root, (root + 1) % 6), false);
            due("all are held", card.held(), 6);
        }
    }

    private static void allElements() {
        sentence("all elements of lasting objects");
        for (int size = 1; size <= 4; size++) {
            for (int index = 0; index < size; index++) {
                TearSafeCard card = new TearSafeCard(250);
                loadGood(card, 0, 0, true, PUSH, size, NEW, 0, STORE, 1, LOAD, 1, PUSH, index, PUSH, -5, PUT, 0, BEGIN, 0,
                    LOAD, 1, PUSH, index, LOAD, 0, PUT, 0, ABORT, 0, LOAD, 1, SETROOT, 0, JUMP, 15);
                dueFailed("an object that no root referred to", card, 0, 9, TearSafeCard.STEPS, 15);
                due("element " + index + " of " + size, card.element(0, 0, index), -5);
                loadGood(card, 0, 1, true, BEGIN, 0, ROOT, 0, PUSH, index, LOAD, 0, PUT, 0, ROOT, 0, PUSH, index, GET, 0, RETURN, 0);
                dueReturned("in the transaction", card, 1, -32768, -32768);
                for (int other = 0; other < size; other++) {
                    due("element " + other + " of " + size, card.element(0, 0, other), other == index ? -5 : 0);
                }
            }
        }
    }

    private static void whatIsShared() {
        sentence("what is shared");
        for (int passing = 0; passing < 2; passing++) {
            TearSafeCard card = new TearSafeCard(250);
            loadGood(card, 2, 0, true, PUSH, 1, NEW, passing, DUP, 0, DUP, 0, SETROOT, 0, BEGIN, 0, SHARE, 0, ABORT, 0, SETROOT, 1,
                PUSH, 0, RETURN, 0);
            dueReturned("SHARE and ABORT", card, 4, 0, 0);
            due("private as at BEGIN", card.traits(2, 0), 8 + 2 - 2 * passing);
            loadGood(card, 1, 0, true, FOREIGN, 4, LENGTH, 0, RETURN, 0);
            dueFailed("the wall is there again", card, 2, 0, TearSafeCard.WALL, 1);
            loadGood(card, 2, 0, true, ROOT, 0, SHARE, 0, BEGIN, 0, ROOT, 0, SHARE, 0, PUSH, 0, RETURN, 0);
            dueReturned("SHARE before and after BEGIN", card, 4, 0, 0);
            due("shared as at BEGIN", card.traits(2, 0), 8 + 2 - 2 * passing + 1);
            dueReturned("the wall is not there", card, 2, 0, 1);
        }
    }

    /** An object is no other for having been made while seven were held. */
    private static void eighthObject() {
        sentence("all elements of lasting objects and what is shared what they were at BEGIN");
        TearSafeCard card = new TearSafeCard(250);
        fillRoots(card);
        loadGood(card, 0, 0, true, PUSH, 1, NEW, 0, PUSH, 4, NEW, 0, SETROOT, 0, ROOT, 0, PUSH, 3, PUSH, 17, PUT, 0, LOAD, 0, RETURN, 0);
        dueReturned("an eighth object", card, 0, 0, 0);
        loadGood(card, 0, 0, true, BEGIN, 0, ROOT, 0, DUP, 0, SHARE, 0, PUSH, 3, LOAD, 0, PUT, 0, LOAD, 0, RETURN, 0);
        dueReturned("a transaction that is undone", card, 0, 9, 9);
        due("its element", card.element(0, 0, 3), 17);
        due("private", card.traits(0, 0), 2);
        loadGood(card, 0, 1, true, ROOT, 0, SHARE, 0, LOAD, 0, RETURN, 0);
        dueReturned("SHARE", card, 1, 0, 0);
        dueReturned("a transaction that is undone", card, 0, 9, 9);
        due("its element", card.element(0, 0, 3), 17);
        due("shared", card.traits(0, 0), 3);
    }

    private static void passingElements() {
        sentence("(elements of passing objects, and objects made since, stay as they are)");
        int[] ends = {ABORT, COMMIT, BEGIN};
        for (int op : ends) {
            TearSafeCard card = card();
            loadGood(card, 0, 0, true, BEGIN, 0, ROOT, 1, PUSH, 0, PUSH, 77, PUT, 0, ROOT, 1, PUSH, 1, LOAD, 0, PUT, 0, op, 0,
                ROOT, 1, PUSH, 1, GET, 0, RETURN, 0);
            if (op == BEGIN) {
                dueFailed("a failure", card, 0, -32768, TearSafeCard.NESTING, 9);
            } else {
                dueReturned("op " + op, card, 0, -32768, -32768);
            }
            duePassing("op " + op, card, 77, -32768);
        }
    }

    private static void madeSince() {
        sentence("objects made since, stay as they are");
        for (int passing = 0; passing < 2; passing++) {
            int traits = 2 - 2 * passing;
            TearSafeCard card = card();
            loadGood(card, 0, 0, true, BEGIN, 0, PUSH, 3, NEW, passing, STORE, 1, LOAD, 1, PUSH, 2, PUSH, 66, PUT, 0,
                LOAD, 0, JZERO, 12, LOAD, 1, SHARE, 0, ABORT, 0, LOAD, 1, SETROOT, 0, JUMP, 15);
            dueFailed("made, put and aborted", card, 0, 0, TearSafeCard.STEPS, 15);
            dueMade("private", card, traits);
            card = card();
            loadGood(card, 0, 0, true, BEGIN, 0, PUSH, 3, NEW, passing, STORE, 1, LOAD, 1, PUSH, 2, PUSH, 66, PUT, 0,
                LOAD, 1, SHARE, 0, ABORT, 0, LOAD, 1, SETROOT, 0, JUMP, 13);
            dueFailed("made, put, shared and aborted", card, 0, 0, TearSafeCard.STEPS, 13);
            dueMade("shared", card, traits + 1);
        }
        roomOfOneThatIsGone();
    }

    private static void dueMade(String what, TearSafeCard card, int traits) {
        due(what + ": length", card.length(0, 0), 3);
        due(what + ": element 0", card.element(0, 0, 0), 0);
        due(what + ": element 2", card.element(0, 0, 2), 66);
        due(what + ": traits", card.traits(0, 0), traits);
        due(what + ": the one before is gone", card.held(), 4);
    }

    /** What an object was at BEGIN must not come back in one made since, wherever that one has its room. */
    private static void roomOfOneThatIsGone() {
        dueNew("one that an entry held", PUSH, 4, NEW, 0, DUP, 0, PUSH, 0, PUSH, 44, PUT, 0, BEGIN, 0, DROP, 0);
        dueNew("a shared one that an entry held", PUSH, 4, NEW, 0, DUP, 0, SHARE, 0, BEGIN, 0, DROP, 0);
        dueNew("a shared one that a local held", PUSH, 4, NEW, 0, STORE, 1, LOAD, 1, SHARE, 0, BEGIN, 0, PUSH, 0, STORE, 1);
        dueNew("a shared, passing one", PUSH, 4, NEW, 1, DUP, 0, SHARE, 0, BEGIN, 0, DROP, 0);
        dueNew("a shared one, gone before BEGIN", PUSH, 4, NEW, 0, SHARE, 0, BEGIN, 0);
    }

    private static void dueNew(String gone, int... first) {
        TearSafeCard card = new TearSafeCard(250);
        int[] then = {PUSH, 2, NEW, 0, STORE, 1, ABORT, 0, LOAD, 1, SETROOT, 0, LOAD, 0, RETURN, 0};
        loadGood(card, 0, 0, true, join(first, then));
        dueReturned("a new object after " + gone, card, 0, 3, 3);
        due("its length, after " + gone, card.length(0, 0), 2);
        due("its traits, after " + gone, card.traits(0, 0), 2);
        due("its element, after " + gone, card.element(0, 0, 0), 0);
    }

    private static void commit() {
        sentence("COMMIT ends the transaction without that.");
        committed("the end of the run", RETURNED, -1, COMMIT, 0, RETURN, 0);
        committed("a failure", TearSafeCard.NULL, 9, COMMIT, 0, NULL, 0, LENGTH, 0, RETURN, 0);
        committed("a second COMMIT", TearSafeCard.NESTING, 8, COMMIT, 0, COMMIT, 0, RETURN, 0);
        committed("an ABORT", TearSafeCard.NESTING, 8, COMMIT, 0, ABORT, 0, RETURN, 0);
        committed("another transaction", RETURNED, -1, COMMIT, 0, BEGIN, 0, NULL, 0, SETROOT, 0, ABORT, 0, RETURN, 0);
        committed("another transaction at the end", RETURNED, -1, COMMIT, 0, BEGIN, 0, ROOT, 1, SETROOT, 0, RETURN, 0);
        TearSafeCard card = card();
        loadGood(card, 0, 0, true, changing(COMMIT, 0, NULL, 0, SETROOT, 1, RETURN, 0));
        card.tear(10);
        dueFailed("power that fails behind it", card, 0, 0, TORN, 9);
        dueChanged("power that fails behind it", card);
    }

    private static void committed(String what, int outcome, int place, int... rest) {
        TearSafeCard card = card();
        loadGood(card, 0, 0, true, changing(rest));
        dueRun("COMMIT and " + what, card, 0, 0, outcome, outcome == RETURNED ? 1 : 0, place);
        dueChanged("COMMIT and " + what, card);
        duePassing("COMMIT and " + what, card, 5, 92);
    }
}

/** The edges that the paragraph on HELD objects names: what holds an object, and what is gone. */
final class HeldEdgeTest extends Support {
    private static final int MEMORY = TearSafeCard.MEMORY;

    /** Two more objects, of which the second does not find room where seven are held already. */
    private static final int[] TWO_MORE = {PUSH, 1, NEW, 1, PUSH, 3, NEW, 1, LENGTH, 0, RETURN, 0};

    public static void main(String[] args) {
        byRoots();
        byNoRoot();
        onlyOnce();
        byRootsAtBegin();
        byLocals();
        byEntries();
        byMethodsBeingRun();
        notByNumbers();
        othersAreGone();
        goneAfterTheRun();
        end();
    }

    private static TearSafeCard card() {
        return new TearSafeCard(250);
    }

    private static TearSafeCard sixRoots() {
        TearSafeCard card = card();
        fillRoots(card);
        return card;
    }

    /** With six roots filled, whether what the code does first holds a seventh object. */
    private static void dueSeven(String what, boolean held, int... first) {
        TearSafeCard card = sixRoots();
        loadGood(card, 0, 1, true, join(first, TWO_MORE));
        if (held) {
            dueFailed(what, card, 1, 0, MEMORY, first.length / 2 + 3);
        } else {
            dueReturned(what, card, 1, 0, 3);
        }
    }

    private static void byRoots() {
        sentence("HELD objects are those that a root refers to");
        for (int root = 0; root < 6; root++) {
            TearSafeCard card = sixRoots();
            int[] three = {PUSH, 1, NEW, 1, PUSH, 1, NEW, 1, PUSH, 4, NEW, 1, LENGTH, 0, RETURN, 0};
            loadGood(card, 0, 1, true, three);
            dueFailed("six roots and two entries", card, 1, 0, MEMORY, 5);
            loadGood(card, root / 2, 0, true, NULL, 0, SETROOT, root % 2, LOAD, 0, RETURN, 0);
            dueReturned("root " + root + " lets go", card, root / 2 * 2, 0, 0);
            due("five are held", card.held(), 5);
            dueReturned("five roots and three entries", card, 1, 0, 4);
        }
    }

    /** Two methods hold eight objects in their locals and entries, and no root holds any. */
    private static void byNoRoot() {
        sentence("NEW while 8 objects are HELD");
        int[] four = {PUSH, 1, NEW, 0, STORE, 0, PUSH, 1, NEW, 1, STORE, 1, PUSH, 1, NEW, 0, PUSH, 1, NEW, 1};
        TearSafeCard card = card();
        loadGood(card, 0, 0, true, join(four, code(PUSH, 0, CALL, 3, RETURN, 0)));
        loadGood(card, 1, 1, true, join(four, code(LENGTH, 0, RETURN, 0)));
        dueReturned("eight", card, 0, 0, 1);
        loadGood(card, 1, 1, true, join(four, code(PUSH, 1, NEW, 1, LENGTH, 0, RETURN, 0)));
        dueRun("nine", card, 0, 0, MEMORY, 0, 48 + 11);
        due("no root holds any", card.held(), 0);
        dueReturned("the called method alone", card, 3, 0, 1);
    }

    private static void onlyOnce() {
        sentence("8 objects are HELD");
        dueSeven("one that a root refers to, as an entry", false, ROOT, 0, DUP, 0, STORE, 1);
        dueSeven("one that another's root refers to, as an entry", false, FOREIGN, 3, DUP, 0, STORE, 0);
        dueSeven("one new object in two locals and an entry", true, PUSH, 1, NEW, 0, DUP, 0, STORE, 0, DUP, 0, STORE, 1);
        TearSafeCard card = sixRoots();
        loadGood(card, 0, 1, true, FOREIGN, 2, SETROOT, 0, FOREIGN, 2, SETROOT, 1, PUSH, 0, RETURN, 0);
        dueReturned("one object in three roots", card, 1, 0, 0);
        due("four objects", card.held(), 4);
        int[] four = {PUSH, 1, NEW, 1, STORE, 0, PUSH, 1, NEW, 1, STORE, 1, PUSH, 1, NEW, 1, PUSH, 1, NEW, 1};
        loadGood(card, 0, 1, true, join(four, code(LENGTH, 0, RETURN, 0)));
        dueReturned("and four more", card, 1, 0, 1);
        loadGood(card, 0, 1, true, join(four, code(PUSH, 1, NEW, 1, LENGTH, 0, RETURN, 0)));
        dueFailed("and five more", card, 1, 0, MEMORY, 11);
    }

    private static void byRootsAtBegin() {
        sentence("or did refer to at BEGIN if a transaction is open");
        for (int root = 0; root < 2; root++) {
            dueSeven("a root set to null", false, PUSH, 1, NEW, 0, NULL, 0, SETROOT, root);
            dueSeven("a root set to null since BEGIN", true, PUSH, 1, NEW, 0, BEGIN, 0, NULL, 0, SETROOT, root);
            dueSeven("a root set to null before BEGIN", false, PUSH, 1, NEW, 0, NULL, 0, SETROOT, root, BEGIN, 0);
            dueSeven("a root set to null since BEGIN, and COMMIT", false, PUSH, 1, NEW, 0, BEGIN, 0, NULL, 0, SETROOT, root, COMMIT, 0);
            dueSeven("a root set to null since BEGIN, and ABORT", true, PUSH, 1, NEW, 0, BEGIN, 0, NULL, 0, SETROOT, root, ABORT, 0);
            dueSeven("a root set to a new object", false, PUSH, 1, NEW, 0, SETROOT, root);
            dueSeven("a root set to a new object since BEGIN", true, BEGIN, 0, PUSH, 1, NEW, 0, SETROOT, root);
            dueSeven("the same, and COMMIT", false, BEGIN, 0, PUSH, 1, NEW, 0, SETROOT, root, COMMIT, 0);
            dueSeven("the same, and ABORT", false, BEGIN, 0, PUSH, 1, NEW, 0, SETROOT, root, ABORT, 0);
            dueSeven("BEGIN after COMMIT", false, BEGIN, 0, NULL, 0, SETROOT, root, COMMIT, 0, BEGIN, 0, PUSH, 1, NEW, 0);
        }
        otherRootsAtBegin();
    }

    private static void otherRootsAtBegin() {
        for (int root = 2; root < 6; root++) {
            TearSafeCard card = sixRoots();
            int setter = root / 2 * 2 + 1;
            loadGood(card, root / 2, 1, true, NULL, 0, SETROOT, root % 2, LOAD, 0, RETURN, 0);
            loadGood(card, 0, 1, true, join(code(BEGIN, 0, PUSH, 1, NEW, 0, PUSH, 0, CALL, setter, DROP, 0), TWO_MORE));
            dueFailed("root " + root + " set to null since BEGIN", card, 1, 0, MEMORY, 6 + 3);
            due("it refers to its object again", card.length(root / 2, root % 2), 1 + root % 2);
            loadGood(card, 0, 1, true, join(code(PUSH, 1, NEW, 0, PUSH, 0, CALL, setter, DROP, 0), TWO_MORE));
            dueReturned("root " + root + " set to null without a transaction", card, 1, 0, 3);
        }
    }

    private static void byLocals() {
        sentence("those to which a local");
        for (int local = 0; local < 2; local++) {
            dueSeven("a reference in local " + local, true, PUSH, 1, NEW, 0, STORE, local);
            dueSeven("a number in its place", false, PUSH, 1, NEW, 0, STORE, local, PUSH, 7, STORE, local);
            dueSeven("null in its place", false, PUSH, 1, NEW, 0, STORE, local, NULL, 0, STORE, local);
            dueSeven("another reference in its place", true, PUSH, 1, NEW, 0, STORE, local, PUSH, 1, NEW, 0, STORE, local);
            dueSeven("a root's object in its place", false, PUSH, 1, NEW, 0, STORE, local, ROOT, 1, STORE, local);
            dueSeven("a reference that was in a root", true, ROOT, 0, STORE, local, PUSH, 1, NEW, 0, NULL, 0, SETROOT, 0);
            dueSeven("the same by FOREIGN", true, FOREIGN, 1, STORE, local, PUSH, 1, NEW, 0, NULL, 0, SETROOT, 1);
        }
        dueSeven("local 1 when it is unset", false);
    }

    private static void byEntries() {
        sentence("those to which a local or entry");
        for (int below = 0; below < 2; below++) {
            int[] numbers = times(below, PUSH, 7);
            dueSeven("an entry with " + below + " below it", true, join(numbers, code(PUSH, 1, NEW, 0)));
            dueSeven("the same, dropped", false, join(numbers, code(PUSH, 1, NEW, 0, DROP, 0)));
            dueSeven("the same, taken by LENGTH", false, join(numbers, code(PUSH, 1, NEW, 0, LENGTH, 0)));
            dueSeven("the same, taken by SHARE", false, join(numbers, code(PUSH, 1, NEW, 0, SHARE, 0)));
            dueSeven("the same, taken by GET", false, join(numbers, code(PUSH, 1, NEW, 0, PUSH, 0, GET, 0)));
            dueSeven("the same, taken by PUT", false, join(numbers, code(PUSH, 1, NEW, 0, PUSH, 0, PUSH, 7, PUT, 0)));
        }
        TearSafeCard card = sixRoots();
        loadGood(card, 0, 1, true, PUSH, 1, NEW, 0, STORE, 1, PUSH, 7, PUSH, 7, PUSH, 1, NEW, 0, PUSH, 1, NEW, 0, JUMP, 9);
        dueFailed("an entry with 2 below it and a local", card, 1, 0, MEMORY, 8);
        loadGood(card, 0, 1, true, PUSH, 1, NEW, 0, STORE, 1, PUSH, 7, PUSH, 7, PUSH, 1, NEW, 0, PUSH, 1, DROP, 0, LENGTH, 0, RETURN, 0);
        dueReturned("the same without a ninth", card, 1, 0, 1);
        loadGood(card, 0, 1, true, PUSH, 1, NEW, 0, STORE, 1, PUSH, 3, PUSH, 1, NEW, 0, DROP, 0, NEW, 0, LENGTH, 0, RETURN, 0);
        dueReturned("one dropped from above the top", card, 1, 0, 3);
        dueSeven("a copy by DUP", true, PUSH, 1, NEW, 0, DUP, 0, STORE, 1, PUSH, 7, STORE, 1);
        dueSeven("a copy by LOAD", true, PUSH, 1, NEW, 0, STORE, 1, LOAD, 1, PUSH, 7, STORE, 1);
    }

    private static void byMethodsBeingRun() {
        sentence("of a method being run refers");
        int[][] holds = {{PUSH, 1, NEW, 0, STORE, 0}, {PUSH, 1, NEW, 0, STORE, 1}, {PUSH, 1, NEW, 0}, {PUSH, 9, PUSH, 1, NEW, 0}};
        for (int[] hold : holds) {
            TearSafeCard card = sixRoots();
            loadGood(card, 1, 1, true, TWO_MORE);
            loadGood(card, 0, 1, true, join(hold, code(PUSH, 0, CALL, 3, RETURN, 0)));
            dueRun("a caller's", card, 1, 0, MEMORY, 0, 48 + 3);
            loadGood(card, 0, 0, true, LOAD, 0, CALL, 2, RETURN, 0);
            loadGood(card, 1, 0, true, LOAD, 0, CALL, 3, RETURN, 0);
            loadGood(card, 0, 1, true, join(hold, code(PUSH, 0, CALL, 0, RETURN, 0)));
            dueRun("that of a caller's caller's caller", card, 1, 0, MEMORY, 0, 48 + 3);
            loadGood(card, 2, 1, true, join(hold, code(PUSH, 8, RETURN, 0)));
            loadGood(card, 0, 1, true, join(code(LOAD, 0, CALL, 5, CALL, 5, CALL, 5, DROP, 0), TWO_MORE));
            dueReturned("one that has answered is not being run", card, 1, 0, 3);
            loadGood(card, 0, 1, true, LOAD, 0, CALL, 5, CALL, 3, RETURN, 0);
            dueReturned("nor when another is called in its place", card, 1, 0, 3);
        }
    }

    /** No number is looked at as if it referred to something, wherever it comes from. */
    private static void notByNumbers() {
        sentence("to which a local or entry of a method being run refers");
        int[] numbers = {-32768, -1, 0, 1, 7, 8, 9, 32767};
        for (int number : numbers) {
            TearSafeCard card = sixRoots();
            loadGood(card, 1, 1, true, LOAD, 0, RETURN, 0);
            loadGood(card, 0, 1, true, join(code(LOAD, 0, CALL, 3), TWO_MORE));
            dueReturned("a number called with, and answered", card, 1, number, 3);
            loadGood(card, 0, 1, true, join(code(LOAD, 0, PUSH, 0, SUB, 0, DUP, 0, STORE, 1), TWO_MORE));
            dueReturned("a difference, as an entry and a local", card, 1, number, 3);
            loadGood(card, 0, 1, true, join(code(ROOT, 0, PUSH, 0, LOAD, 0, PUT, 0, ROOT, 0, PUSH, 0, GET, 0), TWO_MORE));
            dueReturned("an element", card, 1, number, 3);
        }
        dueSeven("numbers pushed", false, PUSH, 8, STORE, 1, PUSH, 7, PUSH, 8);
        TearSafeCard card = sixRoots();
        loadGood(card, 1, 0, true, PUSH, 4, NEW, 0, DUP, 0, SHARE, 0, SETROOT, 1, NULL, 0, SETROOT, 0, LOAD, 0, RETURN, 0);
        dueReturned("five objects, with room where the fourth was", card, 2, 0, 0);
        loadGood(card, 0, 1, true, join(code(FOREIGN, 3, LENGTH, 0, PUSH, 1, NEW, 1), TWO_MORE));
        dueReturned("a length", card, 1, 0, 3);
    }

    private static void othersAreGone() {
        sentence("Other objects are gone.");
        TearSafeCard card = card();
        loadGood(card, 0, 0, true, LOAD, 0, PUSH, 4, NEW, 0, SETROOT, 0, PUSH, 3, NEW, 1, SETROOT, 0, PUSH, 1, SUB, 0, DUP, 0, STORE, 0,
            JZERO, 13, JUMP, 0, LOAD, 0, RETURN, 0);
        dueReturned("34 objects, one after the other in a root", card, 0, 17, 0);
        due("the last is held", card.length(0, 0), 3);
        due("the others are gone", card.held(), 1);
        loadGood(card, 0, 1, true, PUSH, 1, NEW, 0, DROP, 0, LOAD, 0, PUSH, 1, SUB, 0, DUP, 0, STORE, 0, JZERO, 10, JUMP, 0, LOAD, 0,
            RETURN, 0);
        dueReturned("22 objects, each dropped", card, 1, 22, 0);
        due("one is held", card.held(), 1);
    }

    private static void goneAfterTheRun() {
        sentence("and those to which a local or entry of a method being run refers. Other objects are gone.");
        int[][] ends = {{LENGTH, 0, RETURN, 0}, {COMMIT, 0, LENGTH, 0, RETURN, 0}};
        for (int[] last : ends) {
            TearSafeCard card = sixRoots();
            loadGood(card, 0, 1, true, join(code(PUSH, 1, NEW, 0, STORE, 1, PUSH, 1, NEW, 0), last));
            for (int time = 0; time < 5; time++) {
                int outcome = last.length == 4 ? TearSafeCard.RETURNED : TearSafeCard.NESTING;
                due("two new objects in run " + time, card.run(0, 1, 0), outcome);
                due("they are gone", card.held(), 6);
            }
        }
        TearSafeCard card = sixRoots();
        loadGood(card, 0, 1, true, BEGIN, 0, PUSH, 4, NEW, 0, SETROOT, 0, PUSH, 4, NEW, 0, SETROOT, 1, LOAD, 0, RETURN, 0);
        for (int time = 0; time < 5; time++) {
            dueReturned("two new objects in roots that are undone", card, 1, 0, 0);
            due("they are gone", card.held(), 6);
            due("the root's object", card.length(0, 1), 2);
        }
    }
}

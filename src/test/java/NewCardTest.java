/** Promise 1: what a new object is like, and how its limit is clamped. */
final class NewCardTest extends Support {
    public static void main(String[] args) {
        emptyAtFirst();
        limits();
        objectsAreApart();
        end();
    }

    private static void emptyAtFirst() {
        TearSafeCard card = new TearSafeCard(100);
        due("result at first", card.result(), 0);
        due("place at first", card.place(), -1);
        due("held at first", card.held(), 0);
        for (int applet = 0; applet < 3; applet++) {
            for (int number = 0; number < 2; number++) {
                due("run at first", card.run(applet, number, 1), TearSafeCard.ABSENT);
                due("length at first", card.length(applet, number), 0);
                due("element at first", card.element(applet, number, 0), 0);
                due("traits at first", card.traits(applet, number), -1);
                int root = 2 * applet + number;
                due("a null root is not the same as itself", card.same(root, root), false);
            }
        }
        due("no pending code at first", card.install(0, 0, true), TearSafeCard.BAD);
        due("the first put", card.put(PUSH, 1), 1);
        noFailureAwaited();
    }

    private static void noFailureAwaited() {
        TearSafeCard card = new TearSafeCard(100);
        loadGood(card, 0, 0, false, NULL, 0, SETROOT, 0, LOAD, 0, RETURN, 0);
        for (int time = 0; time < 110; time++) {
            due("a WRITE with no failure awaited", card.run(0, 0, time), TearSafeCard.RETURNED);
        }
    }

    private static void limits() {
        int[] given = {Integer.MIN_VALUE, -1, 0, 19, 20, 21, 100, 249, 250, 251, Integer.MAX_VALUE};
        int[] clamped = {20, 20, 20, 20, 20, 21, 100, 249, 250, 250, 250};
        for (int i = 0; i < given.length; i++) {
            limit(given[i], clamped[i]);
        }
    }

    /** A round of the loop has 7 instructions, and an answer of 0 needs 4 more. */
    private static void limit(int given, int clamped) {
        TearSafeCard card = new TearSafeCard(given);
        loadGood(card, 0, 0, false, LOAD, 0, JZERO, 7, LOAD, 0, PUSH, 1, SUB, 0, STORE, 0, JUMP, 0, PUSH, 0, RETURN, 0);
        int rounds = (clamped - 4) / 7;
        dueReturned("limit " + given + ": enough", card, 0, rounds, 0);
        dueFailed("limit " + given + ": endless", card, 0, -1, TearSafeCard.STEPS, clamped % 7);
        loadGood(card, 0, 1, false, JUMP, 1, JUMP, 0);
        dueFailed("limit " + given + ": parity", card, 1, 0, TearSafeCard.STEPS, clamped % 2);
    }

    private static void objectsAreApart() {
        TearSafeCard one = new TearSafeCard(100);
        TearSafeCard other = new TearSafeCard(100);
        loadGood(one, 0, 0, false, PUSH, 1, NEW, 0, SETROOT, 0, PUSH, 3, RETURN, 0);
        one.tear(50);
        dueReturned("one card", one, 0, 0, 3);
        due("the other card's method", other.run(0, 0, 0), TearSafeCard.ABSENT);
        due("the other card's root", other.length(0, 0), 0);
        due("the other card's result", other.result(), 0);
    }
}

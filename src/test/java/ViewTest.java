/** Promises 9 to 13: length, element, traits, same and held. */
final class ViewTest extends Support {
    private static final int[] OUT = {Integer.MIN_VALUE, -2, -1, 3, 4, 5, 6, 7, Integer.MAX_VALUE};

    public static void main(String[] args) {
        lengthsAndElements();
        traits();
        outOfRange();
        same();
        held();
        end();
    }

    /** Root number has an object of length number mod 4 + 1, with elements 10 * number + index, passing where number is odd. */
    private static TearSafeCard card() {
        TearSafeCard card = new TearSafeCard(250);
        for (int number = 0; number < 6; number++) {
            int applet = number / 2;
            int root = number % 2;
            loadGood(card, applet, 0, true, PUSH, number % 4 + 1, NEW, number % 2, SETROOT, root, PUSH, 0, RETURN, 0);
            dueReturned("an object", card, 2 * applet, 0, 0);
            for (int index = 0; index <= number % 4; index++) {
                loadGood(card, applet, 1, true, ROOT, root, PUSH, index, LOAD, 0, PUT, 0, PUSH, 0, RETURN, 0);
                dueReturned("an element", card, 2 * applet + 1, value(number, index), 0);
            }
        }
        return card;
    }

    private static int value(int number, int index) {
        return (number % 2 == 0 ? 1 : -1) * (10 * number + index + 1);
    }

    private static void lengthsAndElements() {
        TearSafeCard card = card();
        for (int number = 0; number < 6; number++) {
            int size = number % 4 + 1;
            due("length of " + number, card.length(number / 2, number % 2), size);
            for (int index = -2; index <= 6; index++) {
                int want = index >= 0 && index < size ? value(number, index) : 0;
                due("element " + index + " of " + number, card.element(number / 2, number % 2, index), want);
            }
            due("element of " + number, card.element(number / 2, number % 2, Integer.MIN_VALUE), 0);
            due("element of " + number, card.element(number / 2, number % 2, Integer.MAX_VALUE), 0);
        }
    }

    private static void traits() {
        TearSafeCard card = card();
        for (int number = 0; number < 6; number++) {
            int want = 4 * (number / 2) + (number % 2 == 0 ? 2 : 0);
            due("traits of " + number, card.traits(number / 2, number % 2), want);
            loadGood(card, number / 2, 0, true, ROOT, number % 2, SHARE, 0, PUSH, 0, RETURN, 0);
            dueReturned("SHARE", card, number / 2 * 2, 0, 0);
            due("traits of " + number + ", shared", card.traits(number / 2, number % 2), want + 1);
        }
        loadGood(card, 0, 0, true, FOREIGN, 4, SETROOT, 0, PUSH, 0, RETURN, 0);
        dueReturned("another applet's object in a root", card, 0, 0, 0);
        due("traits tell its owner", card.traits(0, 0), 11);
    }

    private static void outOfRange() {
        TearSafeCard card = card();
        for (int number : OUT) {
            for (int other = 0; other < 2; other++) {
                due("length(" + number + ", " + other + ")", card.length(number, other), 0);
                due("element(" + number + ", " + other + ", 0)", card.element(number, other, 0), 0);
                due("traits(" + number + ", " + other + ")", card.traits(number, other), -1);
            }
        }
        int[] roots = {Integer.MIN_VALUE, -2, -1, 2, 3, 4, 5, Integer.MAX_VALUE};
        for (int root : roots) {
            for (int applet = 0; applet < 3; applet++) {
                due("length(" + applet + ", " + root + ")", card.length(applet, root), 0);
                due("element(" + applet + ", " + root + ", 0)", card.element(applet, root, 0), 0);
                due("traits(" + applet + ", " + root + ")", card.traits(applet, root), -1);
            }
        }
    }

    private static void same() {
        TearSafeCard card = card();
        for (int a = 0; a < 6; a++) {
            for (int b = 0; b < 6; b++) {
                due("same(" + a + ", " + b + ")", card.same(a, b), a == b);
            }
        }
        int[] out = {Integer.MIN_VALUE, -1, 6, 7, Integer.MAX_VALUE};
        for (int a : out) {
            due("same(" + a + ", 0)", card.same(a, 0), false);
            due("same(0, " + a + ")", card.same(0, a), false);
            due("same(" + a + ", " + a + ")", card.same(a, a), false);
        }
        loadGood(card, 2, 0, true, FOREIGN, 1, SETROOT, 1, NULL, 0, SETROOT, 0, PUSH, 0, RETURN, 0);
        loadGood(card, 1, 0, true, NULL, 0, SETROOT, 0, PUSH, 0, RETURN, 0);
        dueReturned("a root of another applet", card, 4, 0, 0);
        dueReturned("a null root", card, 2, 0, 0);
        due("same(1, 5)", card.same(1, 5), true);
        due("same(5, 1)", card.same(5, 1), true);
        due("same(0, 5)", card.same(0, 5), false);
        due("two null roots", card.same(2, 4), false);
        due("one null root", card.same(4, 4), false);
        due("one null root", card.same(1, 4), false);
        due("one null root", card.same(4, 1), false);
    }

    private static void held() {
        TearSafeCard card = card();
        due("six roots, six objects", card.held(), 6);
        loadGood(card, 0, 0, true, NULL, 0, SETROOT, 0, PUSH, 0, RETURN, 0);
        dueReturned("a null root", card, 0, 0, 0);
        due("five objects", card.held(), 5);
        loadGood(card, 0, 0, true, FOREIGN, 5, DUP, 0, SETROOT, 0, SETROOT, 1, PUSH, 0, RETURN, 0);
        dueReturned("one object in three roots", card, 0, 0, 0);
        due("four objects", card.held(), 4);
        loadGood(card, 0, 0, true, PUSH, 1, NEW, 0, STORE, 1, PUSH, 1, NEW, 0, COMMIT, 0, LENGTH, 0, RETURN, 0);
        dueFailed("objects of a run that failed", card, 0, 0, TearSafeCard.NESTING, 5);
        due("are not held", card.held(), 4);
        loadGood(card, 0, 0, true, BEGIN, 0, NULL, 0, SETROOT, 0, NULL, 0, SETROOT, 1, COMMIT, 0, PUSH, 0, RETURN, 0);
        dueReturned("two roots let go", card, 0, 0, 0);
        due("the third still holds", card.held(), 4);
    }
}

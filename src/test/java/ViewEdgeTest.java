/** The edges that the sections on promises 9 to 13 name, sentence by sentence. */
final class ViewEdgeTest extends Support {
    private static final int MIN = Integer.MIN_VALUE;
    private static final int MAX = Integer.MAX_VALUE;

    public static void main(String[] args) {
        length();
        element();
        traits();
        same();
        held();
        end();
    }

    private static TearSafeCard card() {
        return new TearSafeCard(100);
    }

    private static void length() {
        sentence("The length of the object of a root; 0 if it is null or the numbers are out of range.");
        TearSafeCard card = fullCard();
        for (int root = 0; root < 6; root++) {
            due("length of root " + root, card.length(root / 2, root % 2), size(root));
            due("a null root", card().length(root / 2, root % 2), 0);
        }
        for (int[] pair : OUT) {
            due("length" + at(pair), card.length(pair[0], pair[1]), 0);
        }
    }

    private static void element() {
        sentence("An element of the object of a root; 0 if there is none.");
        TearSafeCard card = fullCard();
        int[] wrong = {MIN, -5, -4, -1, 4, 5, 8, 65536, MAX};
        for (int root = 0; root < 6; root++) {
            for (int index = 0; index < 4; index++) {
                int want = index < size(root) ? 10 * root + index + 1 : 0;
                due("element " + index + " of root " + root, card.element(root / 2, root % 2, index), want);
                due("a null root", card().element(root / 2, root % 2, index), 0);
            }
            for (int index : wrong) {
                due("element " + index + " of root " + root, card.element(root / 2, root % 2, index), 0);
            }
        }
        for (int[] pair : OUT) {
            due("element 0 of" + at(pair), card.element(pair[0], pair[1], 0), 0);
            due("element 3 of" + at(pair), card.element(pair[0], pair[1], 3), 0);
        }
    }

    private static void traits() {
        sentence("Owner * 4, plus 2 if it is lasting, plus 1 if it is shared, of the object of a root; -1 if there is none.");
        for (int owner = 0; owner < 3; owner++) {
            for (int kind = 0; kind < 4; kind++) {
                TearSafeCard card = card();
                int end = kind % 2 == 1 ? SHARE : DROP;
                loadGood(card, owner, 0, true, PUSH, 1, NEW, kind >= 2 ? 0 : 1, DUP, 0, SETROOT, 1, end, 0, PUSH, 0, RETURN, 0);
                dueReturned("an object", card, 2 * owner, 0, 0);
                due("of applet " + owner + " and kind " + kind, card.traits(owner, 1), 4 * owner + kind);
                due("of a null root", card.traits(owner, 0), -1);
                int other = (owner + 1) % 3;
                loadGood(card, other, 0, true, FOREIGN, 2 * owner + 1, SETROOT, 0, PUSH, 0, RETURN, 0);
                dueReturned("another applet's root", card, 2 * other, 0, 0);
                due("the owner stays", card.traits(other, 0), 4 * owner + kind);
            }
        }
        TearSafeCard card = fullCard();
        for (int[] pair : OUT) {
            due("traits" + at(pair), card.traits(pair[0], pair[1]), -1);
        }
    }

    private static void same() {
        sentence("Whether roots (0 .. 5, 2 * applet + root) a and b refer to the same object (false where one is null).");
        for (int a = 0; a < 6; a++) {
            TearSafeCard card = fullCard();
            int b = (a + 3) % 6;
            loadGood(card, b / 2, 0, true, FOREIGN, a, SETROOT, b % 2, PUSH, 0, RETURN, 0);
            dueReturned("root " + b + " refers to what root " + a + " does", card, b / 2 * 2, 0, 0);
            for (int one = 0; one < 6; one++) {
                for (int other = 0; other < 6; other++) {
                    boolean want = one == other || one == a && other == b || one == b && other == a;
                    due("same(" + one + ", " + other + ")", card.same(one, other), want);
                }
            }
            due("null roots", card().same(a, a), false);
            due("two null roots", card().same(a, b), false);
            loadGood(card, b / 2, 0, true, NULL, 0, SETROOT, b % 2, PUSH, 0, RETURN, 0);
            dueReturned("root " + b + " is null", card, b / 2 * 2, 0, 0);
            due("one is null", card.same(a, b), false);
            due("one is null", card.same(b, a), false);
            due("one is null", card.same(b, b), false);
        }
        int[] out = {MIN, -6, -1, 6, 7, 65536, MAX};
        TearSafeCard card = fullCard();
        for (int one : out) {
            due("same(" + one + ", " + one + ")", card.same(one, one), false);
            for (int root = 0; root < 6; root++) {
                due("same(" + one + ", " + root + ")", card.same(one, root), false);
                due("same(" + root + ", " + one + ")", card.same(root, one), false);
            }
        }
    }

    private static void held() {
        sentence("How many objects the roots hold.");
        TearSafeCard card = card();
        due("none", card.held(), 0);
        for (int root = 0; root < 6; root++) {
            loadGood(card, root / 2, 0, true, PUSH, 1, NEW, root % 2, SETROOT, root % 2, PUSH, 0, RETURN, 0);
            dueReturned("one more", card, root / 2 * 2, 0, 0);
            due("one more", card.held(), root + 1);
        }
        for (int root = 0; root < 5; root++) {
            loadGood(card, root / 2, 0, true, FOREIGN, 5, SETROOT, root % 2, PUSH, 0, RETURN, 0);
            dueReturned("a root refers to the last one's object", card, root / 2 * 2, 0, 0);
            due("each object counts once", card.held(), 5 - root);
        }
        for (int root = 0; root < 6; root++) {
            due("as long as a root refers to it", card.held(), 1);
            loadGood(card, root / 2, 0, true, NULL, 0, SETROOT, root % 2, PUSH, 0, RETURN, 0);
            dueReturned("a root is set to null", card, root / 2 * 2, 0, 0);
        }
        due("none again", card.held(), 0);
    }
}

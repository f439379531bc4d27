/** Promises 2 and 14: put. */
final class PutTest extends Support {
    public static void main(String[] args) {
        everyOp();
        refused();
        anyB();
        end();
    }

    private static void everyOp() {
        for (int op = 0; op <= 24; op++) {
            TearSafeCard card = new TearSafeCard(100);
            due("put of op " + op, card.put(op, 0), 1);
            due("a second put of op " + op, card.put(op, 0), 2);
        }
    }

    private static void refused() {
        TearSafeCard card = new TearSafeCard(100);
        int[] wrong = {-1, 25, 26, 256, Integer.MIN_VALUE, Integer.MAX_VALUE};
        for (int op : wrong) {
            due("put of op " + op, card.put(op, 0), TearSafeCard.REFUSED);
        }
        due("nothing is pending after refused puts", card.install(0, 0, true), TearSafeCard.BAD);
        for (int count = 1; count <= 14; count++) {
            due("put " + count, card.put(BEGIN, 0), count);
            due("a wrong op between", card.put(25, 0), TearSafeCard.REFUSED);
        }
        due("put 15", card.put(PUSH, 7), 15);
        due("put 16", card.put(RETURN, 0), 16);
        due("put 17", card.put(PUSH, 8), TearSafeCard.REFUSED);
        due("put 17 again", card.put(RETURN, 0), TearSafeCard.REFUSED);
        due("the first 16 stand", card.install(0, 0, true), 16);
        due("after install there is room", card.put(PUSH, 1), 1);
    }

    /** Also a b that fits nothing is taken, and looked at by install alone. */
    private static void anyB() {
        int[] all = {Integer.MIN_VALUE, -129, -1, 0, 6, 16, 128, Integer.MAX_VALUE};
        TearSafeCard card = new TearSafeCard(100);
        for (int b : all) {
            for (int op = 0; op <= 24; op++) {
                int want = op % 16 + 1;
                due("put(" + op + ", " + b + ")", card.put(op, b), want);
                if (want == 16 || op == 24) {
                    card.install(-1, 0, true);
                }
            }
        }
        for (int b : all) {
            loadGood(card, 0, 0, false, PUSH, 3, PUSH, 4, ADD, b, DUP, b, MUL, b, DUP, b, DROP, b, RETURN, b);
            dueReturned("b of " + b + " is not looked at", card, 0, 0, 49);
            loadGood(card, 0, 0, false, NULL, b, DROP, b, BEGIN, b, ABORT, b, BEGIN, b, COMMIT, b, LOAD, 0, RETURN, b);
            dueReturned("b of " + b + " is not looked at", card, 0, 5, 5);
        }
    }
}

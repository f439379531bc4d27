/** The edges that the sections on promises 1, 2, 3 and 14 name, sentence by sentence. */
final class InstallEdgeTest extends Support {
    private static final int MIN = Integer.MIN_VALUE;
    private static final int MAX = Integer.MAX_VALUE;
    private static final int REFUSED = TearSafeCard.REFUSED;
    private static final int BAD = TearSafeCard.BAD;

    public static void main(String[] args) {
        limit();
        newObject();
        putAdds();
        putRefused();
        installTakes();
        installRefused();
        installBad();
        installGood();
        takenInEachCase();
        refusedBeforeBad();
        anyB();
        end();
    }

    private static TearSafeCard card() {
        return new TearSafeCard(100);
    }

    private static void limit() {
        sentence("limit: LIMIT, clamped to 20 .. 250.");
        int[] given = {MIN, -20, -1, 0, 1, 19, 20, 21, 127, 128, 249, 250, 251, 256, 65536, MAX};
        for (int limit : given) {
            int clamped = limit < 20 ? 20 : limit > 250 ? 250 : limit;
            TearSafeCard card = new TearSafeCard(limit);
            loadGood(card, 0, 0, true, LOAD, 0, JZERO, 7, LOAD, 0, PUSH, 1, SUB, 0, STORE, 0, JUMP, 0, PUSH, 0, RETURN, 0);
            int most = (clamped - 4) / 7;
            dueReturned("limit " + limit + ": " + (7 * most + 4) + " instructions", card, 0, most, 0);
            dueFailed("limit " + limit + ": a round more", card, 0, most + 1, TearSafeCard.STEPS, stop(clamped, most + 1));
            dueFailed("limit " + limit + ": without an end", card, 0, -1, TearSafeCard.STEPS, clamped % 7);
        }
    }

    /** Which instruction is next when as many as the limit have been executed. */
    private static int stop(int limit, int rounds) {
        return limit >= 7 * rounds + 2 ? 7 + limit - 7 * rounds - 2 : limit % 7;
    }

    private static void newObject() {
        sentence("All roots null, no methods, no pending code, no failure awaited.");
        TearSafeCard card = card();
        for (int number = 0; number < 6; number++) {
            due("root " + number, card.traits(number / 2, number % 2), -1);
            due("method " + number, card.run(number / 2, number % 2, 0), TearSafeCard.ABSENT);
        }
        due("no object", card.held(), 0);
        due("no pending code", card.install(0, 0, true), BAD);
        due("no pending code", card.put(NULL, 0), 1);
        card.put(SETROOT, 0);
        card.put(LOAD, 0);
        due("the first code", card.put(RETURN, 0), 4);
        due("the first code", card.install(0, 0, true), 4);
        for (int time = 0; time < 105; time++) {
            due("no failure awaited", card.run(0, 0, 0), TearSafeCard.RETURNED);
        }
    }

    private static void putAdds() {
        sentence("Adds an instruction to the pending code.");
        TearSafeCard card = card();
        card.put(LOAD, 0);
        card.put(PUSH, 3);
        card.put(SUB, 0);
        card.put(RETURN, 0);
        due("four in their order", card.install(2, 1, false), 4);
        dueReturned("four in their order", card, 5, 10, 7);
        for (int op = 0; op <= 24; op++) {
            TearSafeCard other = card();
            due("op " + op, other.put(op, 0), 1);
        }
    }

    private static void putRefused() {
        sentence("REFUSED, nothing changes, if op is not 0 .. 24 or 16 are pending. Else their number.");
        int[] wrong = {MIN, -256, -2, -1, 25, 26, 256, 65536, MAX};
        TearSafeCard card = card();
        for (int count = 1; count <= 14; count++) {
            for (int op : wrong) {
                due("put(" + op + ", 0)", card.put(op, 0), REFUSED);
            }
            due("put " + count, card.put(BEGIN, 0), count);
        }
        due("put 15", card.put(LOAD, 0), 15);
        due("put 16", card.put(RETURN, 0), 16);
        for (int op = 0; op <= 24; op++) {
            due("a 17th of op " + op, card.put(op, 0), REFUSED);
        }
        for (int op : wrong) {
            due("a 17th of op " + op, card.put(op, 0), REFUSED);
        }
        due("the sixteen stand", card.install(0, 0, true), 16);
        dueFailed("as they were put", card, 0, 0, TearSafeCard.NESTING, 1);
        due("their number begins anew", card.put(PUSH, 0), 1);
        due("least op", card.put(0, 0), 2);
        due("greatest op", card.put(24, 0), 3);
    }

    private static void installTakes() {
        sentence("Takes the pending code (none is pending then).");
        TearSafeCard card = card();
        loadGood(card, 0, 0, true, PUSH, 1, RETURN, 0);
        due("none is pending", card.install(0, 1, true), BAD);
        due("none is pending", card.put(PUSH, 2), 1);
        due("the rest of it", card.put(RETURN, 0), 2);
        due("that code alone", card.install(0, 1, true), 2);
        dueReturned("the first code", card, 0, 0, 1);
        dueReturned("the second code", card, 1, 0, 2);
        loadGood(card, 1, 0, true, join(times(15, BEGIN, 0), code(JUMP, 15)));
        loadGood(card, 1, 1, true, JUMP, 0);
        due("nothing of a longer code is left", load(card, 1, 1, true, BEGIN, 0, COMMIT, 0), BAD);
    }

    private static void installRefused() {
        sentence("applet not 0 .. 2 or method not 0, 1: REFUSED.");
        TearSafeCard card = card();
        for (int[] pair : OUT) {
            due("install" + at(pair), load(card, pair[0], pair[1], true, PUSH, 1, RETURN, 0), REFUSED);
        }
        for (int number = 0; number < 6; number++) {
            due("no method has come of it", card.run(number / 2, number % 2, 0), TearSafeCard.ABSENT);
        }
        for (int number = 0; number < 6; number++) {
            loadGood(card, number / 2, number % 2, true, PUSH, number, RETURN, 0);
            dueReturned("in range", card, number, 0, number);
        }
    }

    private static void installBad() {
        sentence("No code, or not GOOD: BAD, the method stays what it was.");
        for (int number = 0; number < 6; number++) {
            TearSafeCard card = card();
            int applet = number / 2;
            int method = number % 2;
            due("no code", card.install(applet, method, true), BAD);
            due("code that is not good", load(card, applet, method, true, DROP, 0), BAD);
            due("absent as it was", card.run(applet, method, 0), TearSafeCard.ABSENT);
            loadGood(card, applet, method, false, PUSH, 40, LOAD, 0, ADD, 0, RETURN, 0);
            due("no code", card.install(applet, method, true), BAD);
            dueReturned("the method stays", card, number, 2, 42);
            due("code that is not good", load(card, applet, method, true, PUSH, 9, PUSH, 8, PUSH, 7, PUSH, 128, RETURN, 0), BAD);
            dueReturned("the method stays", card, number, 2, 42);
            int other = (applet + 1) % 3;
            loadGood(card, other, 0, true, LOAD, 0, CALL, number, RETURN, 0);
            dueFailed("it stays not exported", card, 2 * other, 0, TearSafeCard.WALL, 1);
            loadGood(card, applet, method, true, PUSH, 41, RETURN, 0);
            due("no code, not exported", card.install(applet, method, false), BAD);
            dueReturned("it stays exported", card, 2 * other, 0, 41);
        }
    }

    private static void installGood() {
        sentence("Else it is the method's code, exported or not: its number of instructions.");
        TearSafeCard card = card();
        loadGood(card, 1, 0, true, LOAD, 0, CALL, 0, RETURN, 0);
        for (int count = 2; count <= 16; count++) {
            int[] jumps = new int[2 * (count - 2)];
            for (int at = 0; at < count - 2; at++) {
                jumps[2 * at] = JUMP;
                jumps[2 * at + 1] = at + 1;
            }
            boolean exported = count % 2 == 0;
            due(count + " instructions", load(card, 0, 0, exported, join(jumps, code(PUSH, count, RETURN, 0))), count);
            dueReturned(count + " instructions", card, 0, 0, count);
            due("exported or not", card.run(1, 0, 0), exported ? TearSafeCard.RETURNED : TearSafeCard.WALL);
        }
        due("1 instruction", load(card, 0, 0, true, JUMP, 0), 1);
    }

    private static void takenInEachCase() {
        sentence("install takes the pending code away in each case, also when it answers REFUSED or BAD");
        TearSafeCard card = card();
        for (int[] pair : OUT) {
            due("refused", load(card, pair[0], pair[1], true, PUSH, 1, RETURN, 0), REFUSED);
            due("nothing is pending", card.install(0, 0, true), BAD);
        }
        due("bad", load(card, 0, 0, true, PUSH, 1, ADD, 0), BAD);
        due("nothing is pending", card.put(PUSH, 1), 1);
        due("bad", card.install(0, 0, true), BAD);
        due("nothing is pending", card.install(0, 0, true), BAD);
        due("absent still", card.run(0, 0, 0), TearSafeCard.ABSENT);
        due("good", load(card, 0, 0, true, PUSH, 1, RETURN, 0), 2);
        due("nothing is pending", card.put(PUSH, 1), 1);
        due("sixteen that are bad", load(card(), 0, 0, true, times(16, PUSH, 1)), BAD);
        TearSafeCard full = card();
        due("sixteen that are refused", load(full, 3, 0, true, times(16, JUMP, 0)), REFUSED);
        due("there is room again", load(full, 2, 0, true, times(16, JUMP, 0)), 16);
    }

    private static void refusedBeforeBad() {
        sentence("REFUSED is tested before BAD.");
        for (int[] pair : OUT) {
            TearSafeCard card = card();
            due("no code", card.install(pair[0], pair[1], true), REFUSED);
            due("a wrong b", load(card, pair[0], pair[1], false, PUSH, 128), REFUSED);
            due("no entry", load(card, pair[0], pair[1], true, DROP, 0, JUMP, 1), REFUSED);
        }
    }

    private static void anyB() {
        sentence("put takes any b: whether it fits its instruction is looked at by install alone.");
        int[] any = {MIN, MIN + 1, -65536, -129, -128, -1, 0, 1, 2, 5, 6, 15, 16, 127, 128, 65536, MAX};
        for (int b : any) {
            TearSafeCard card = card();
            for (int op = 0; op <= 24; op++) {
                due("put(" + op + ", " + b + ")", card.put(op, b), op % 16 + 1);
                if (op == 15) {
                    card.install(-1, 0, true);
                }
            }
        }
        TearSafeCard card = card();
        due("a JUMP further than there is code yet", card.put(JUMP, 2), 1);
        card.put(BEGIN, 0);
        card.put(JUMP, 1);
        due("is looked at when there is", card.install(0, 0, true), 3);
        due("a PUSH that does not fit", card.put(PUSH, 1000), 1);
        card.put(RETURN, 0);
        due("is looked at by install", card.install(0, 0, true), BAD);
    }
}

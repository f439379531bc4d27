/** The edges that the sections "Promise 1" to "Promise 14" name, sentence by sentence. */
final class PromiseEdgeTest extends Support {
    private static final int MIN = Integer.MIN_VALUE;
    private static final int MAX = Integer.MAX_VALUE;
    private static final int REFUSED = TearSafeCard.REFUSED;
    private static final int BAD = TearSafeCard.BAD;

    /** Applet and method, or applet and root, of which at least one is out of range. */
    private static final int[][] OUT = {{-1, 0}, {-1, 1}, {3, 0}, {3, 1}, {0, -1}, {0, 2}, {1, -1}, {1, 2}, {2, -1}, {2, 2}, {-1, -1},
        {3, 2}, {-1, 2}, {3, -1}, {0, 4}, {6, 0}, {MIN, 0}, {MAX, 1}, {0, MIN}, {2, MAX}, {MIN, MAX}, {MAX, MIN}, {65536, 0}, {0, 65536},
        {1 << 30, 0}, {1 << 31, 1}, {256, 1}};

    public static void main(String[] args) {
        limit();
        newObject();
        putAdds();
        putRefused();
        installTakes();
        installRefused();
        installBad();
        installGood();
        runCalls();
        runLowBits();
        runOfItsOwn();
        exportedOrNot();
        runRefused();
        runAbsent();
        howItEnded();
        result();
        place();
        noPlace();
        tearInPlace();
        tearAnswers();
        reset();
        length();
        element();
        traits();
        same();
        held();
        takenInEachCase();
        refusedBeforeBad();
        anyB();
        end();
    }

    private static TearSafeCard card() {
        return new TearSafeCard(100);
    }

    private static String at(int[] pair) {
        return "(" + pair[0] + ", " + pair[1] + ")";
    }

    /** Each root refers to a lasting object of length root + 1, but 4 at most, whose elements are 10 * root + index + 1. */
    private static TearSafeCard fullCard() {
        TearSafeCard card = card();
        for (int root = 0; root < 6; root++) {
            int applet = root / 2;
            loadGood(card, applet, 0, true, PUSH, size(root), NEW, 0, SETROOT, root % 2, PUSH, 0, RETURN, 0);
            dueReturned("an object", card, 2 * applet, 0, 0);
            loadGood(card, applet, 0, true, ROOT, root % 2, LOAD, 0, LOAD, 0, PUSH, 10 * root + 1, ADD, 0, PUT, 0, PUSH, 0, RETURN, 0);
            for (int index = 0; index < size(root); index++) {
                due("an element", card.run(applet, 0, index), TearSafeCard.RETURNED);
            }
        }
        return card;
    }

    private static int size(int root) {
        return root < 4 ? root + 1 : 4;
    }

    private static void limit() {
        sentence("limit: LIMIT, clamped to 20 .. 250.");
        int[] given = {MIN, -20, -1, 0, 1, 19, 20, 21, 127, 128, 249, 250, 251, 256, 65536, MAX};
        for (int limit : given) {
            int clamped = limit < 20 ? 20 : limit > 250 ? 250 : limit;
            TearSafeCard card = new TearSafeCard(limit);
            loadGood(card, 0, 0, true, LOAD, 0, JZERO, 7, LOAD, 0, PUSH, 1, SUB, 0, STORE, 0, JUMP, 0, PUSH, 0, RETURN, 0);
            int most = (clamped - 4) / 7;
            dueReturned("limit " + limit + ": " + (7 * most + 4) + " instructions", card, 0, most, 0);
            dueFailed("limit " + limit + ": a round more", card, 0, most + 1, TearSafeCard.STEPS, stop(clamped, most + 1));
            dueFailed("limit " + limit + ": without an end", card, 0, -1, TearSafeCard.STEPS, clamped % 7);
        }
    }

    /** Which instruction is next when as many as the limit have been executed. */
    private static int stop(int limit, int rounds) {
        return limit >= 7 * rounds + 2 ? 7 + limit - 7 * rounds - 2 : limit % 7;
    }

    private static void newObject() {
        sentence("All roots null, no methods, no pending code, no failure awaited.");
        TearSafeCard card = card();
        for (int number = 0; number < 6; number++) {
            due("root " + number, card.traits(number / 2, number % 2), -1);
            due("method " + number, card.run(number / 2, number % 2, 0), TearSafeCard.ABSENT);
        }
        due("no object", card.held(), 0);
        due("no pending code", card.install(0, 0, true), BAD);
        due("no pending code", card.put(NULL, 0), 1);
        card.put(SETROOT, 0);
        card.put(LOAD, 0);
        due("the first code", card.put(RETURN, 0), 4);
        due("the first code", card.install(0, 0, true), 4);
        for (int time = 0; time < 105; time++) {
            due("no failure awaited", card.run(0, 0, 0), TearSafeCard.RETURNED);
        }
    }

    private static void putAdds() {
        sentence("Adds an instruction to the pending code.");
        TearSafeCard card = card();
        card.put(LOAD, 0);
        card.put(PUSH, 3);
        card.put(SUB, 0);
        card.put(RETURN, 0);
        due("four in their order", card.install(2, 1, false), 4);
        dueReturned("four in their order", card, 5, 10, 7);
        for (int op = 0; op <= 24; op++) {
            TearSafeCard other = card();
            due("op " + op, other.put(op, 0), 1);
        }
    }

    private static void putRefused() {
        sentence("REFUSED, nothing changes, if op is not 0 .. 24 or 16 are pending. Else their number.");
        int[] wrong = {MIN, -256, -2, -1, 25, 26, 256, 65536, MAX};
        TearSafeCard card = card();
        for (int count = 1; count <= 14; count++) {
            for (int op : wrong) {
                due("put(" + op + ", 0)", card.put(op, 0), REFUSED);
            }
            due("put " + count, card.put(BEGIN, 0), count);
        }
        due("put 15", card.put(LOAD, 0), 15);
        due("put 16", card.put(RETURN, 0), 16);
        for (int op = 0; op <= 24; op++) {
            due("a 17th of op " + op, card.put(op, 0), REFUSED);
        }
        for (int op : wrong) {
            due("a 17th of op " + op, card.put(op, 0), REFUSED);
        }
        due("the sixteen stand", card.install(0, 0, true), 16);
        dueFailed("as they were put", card, 0, 0, TearSafeCard.NESTING, 1);
        due("their number begins anew", card.put(PUSH, 0), 1);
        due("least op", card.put(0, 0), 2);
        due("greatest op", card.put(24, 0), 3);
    }

    private static void installTakes() {
        sentence("Takes the pending code (none is pending then).");
        TearSafeCard card = card();
        loadGood(card, 0, 0, true, PUSH, 1, RETURN, 0);
        due("none is pending", card.install(0, 1, true), BAD);
        due("none is pending", card.put(PUSH, 2), 1);
        due("the rest of it", card.put(RETURN, 0), 2);
        due("that code alone", card.install(0, 1, true), 2);
        dueReturned("the first code", card, 0, 0, 1);
        dueReturned("the second code", card, 1, 0, 2);
        loadGood(card, 1, 0, true, join(times(15, BEGIN, 0), code(JUMP, 15)));
        loadGood(card, 1, 1, true, JUMP, 0);
        due("nothing of a longer code is left", load(card, 1, 1, true, BEGIN, 0, COMMIT, 0), BAD);
    }

    private static void installRefused() {
        sentence("applet not 0 .. 2 or method not 0, 1: REFUSED.");
        TearSafeCard card = card();
        for (int[] pair : OUT) {
            due("install" + at(pair), load(card, pair[0], pair[1], true, PUSH, 1, RETURN, 0), REFUSED);
        }
        for (int number = 0; number < 6; number++) {
            due("no method has come of it", card.run(number / 2, number % 2, 0), TearSafeCard.ABSENT);
        }
        for (int number = 0; number < 6; number++) {
            loadGood(card, number / 2, number % 2, true, PUSH, number, RETURN, 0);
            dueReturned("in range", card, number, 0, number);
        }
    }

    private static void installBad() {
        sentence("No code, or not GOOD: BAD, the method stays what it was.");
        for (int number = 0; number < 6; number++) {
            TearSafeCard card = card();
            int applet = number / 2;
            int method = number % 2;
            due("no code", card.install(applet, method, true), BAD);
            due("code that is not good", load(card, applet, method, true, DROP, 0), BAD);
            due("absent as it was", card.run(applet, method, 0), TearSafeCard.ABSENT);
            loadGood(card, applet, method, false, PUSH, 40, LOAD, 0, ADD, 0, RETURN, 0);
            due("no code", card.install(applet, method, true), BAD);
            dueReturned("the method stays", card, number, 2, 42);
            due("code that is not good", load(card, applet, method, true, PUSH, 9, PUSH, 8, PUSH, 7, PUSH, 128, RETURN, 0), BAD);
            dueReturned("the method stays", card, number, 2, 42);
            int other = (applet + 1) % 3;
            loadGood(card, other, 0, true, LOAD, 0, CALL, number, RETURN, 0);
            dueFailed("it stays not exported", card, 2 * other, 0, TearSafeCard.WALL, 1);
            loadGood(card, applet, method, true, PUSH, 41, RETURN, 0);
            due("no code, not exported", card.install(applet, method, false), BAD);
            dueReturned("it stays exported", card, 2 * other, 0, 41);
        }
    }

    private static void installGood() {
        sentence("Else it is the method's code, exported or not: its number of instructions.");
        TearSafeCard card = card();
        loadGood(card, 1, 0, true, LOAD, 0, CALL, 0, RETURN, 0);
        for (int count = 2; count <= 16; count++) {
            int[] jumps = new int[2 * (count - 2)];
            for (int at = 0; at < count - 2; at++) {
                jumps[2 * at] = JUMP;
                jumps[2 * at + 1] = at + 1;
            }
            boolean exported = count % 2 == 0;
            due(count + " instructions", load(card, 0, 0, exported, join(jumps, code(PUSH, count, RETURN, 0))), count);
            dueReturned(count + " instructions", card, 0, 0, count);
            due("exported or not", card.run(1, 0, 0), exported ? TearSafeCard.RETURNED : TearSafeCard.WALL);
        }
        due("1 instruction", load(card, 0, 0, true, JUMP, 0), 1);
    }

    private static void runCalls() {
        sentence("Calls the method from outside with a number");
        TearSafeCard card = card();
        for (int number = 0; number < 6; number++) {
            loadGood(card, number / 2, number % 2, false, LOAD, 0, PUSH, number, SUB, 0, RETURN, 0);
        }
        for (int number = 0; number < 6; number++) {
            dueReturned("method " + number, card, number, 50, 50 - number);
        }
    }

    private static void runLowBits() {
        sentence("(its low 16 bits with sign)");
        TearSafeCard card = card();
        loadGood(card, 0, 0, false, LOAD, 0, RETURN, 0);
        int[] given = {32767, 32768, -32768, -32769, 65535, 65536, 65537, -65535, -65536, -65537, 98304, MAX, MIN, MAX - 1, MIN + 1};
        int[] low = {32767, -32768, -32768, 32767, -1, 0, 1, 1, 0, -1, -32768, -1, 0, -2, 1};
        for (int i = 0; i < given.length; i++) {
            dueReturned("run with " + given[i], card, 0, given[i], low[i]);
        }
        loadGood(card, 0, 0, false, LOAD, 0, PUSH, 0, LESS, 0, RETURN, 0);
        dueReturned("32768 is less than 0", card, 0, 32768, 1);
        dueReturned("65536 is not", card, 0, 65536, 0);
        loadGood(card, 0, 0, false, LOAD, 0, NEW, 0, LENGTH, 0, RETURN, 0);
        dueReturned("65537 is a length of 1", card, 0, 65537, 1);
    }

    private static void runOfItsOwn() {
        sentence("as a run of its own");
        TearSafeCard card = new TearSafeCard(20);
        loadGood(card, 0, 0, false, BEGIN, 0, LOAD, 0, DUP, 0, STORE, 1, LOAD, 1, PUSH, 1, DROP, 0, BEGIN, 0, RETURN, 0);
        loadGood(card, 0, 1, false, BEGIN, 0, LOAD, 0, DUP, 0, STORE, 1, LOAD, 1, PUSH, 1, DROP, 0, RETURN, 0);
        for (int time = 0; time < 5; time++) {
            dueFailed("a failing run", card, 0, time, TearSafeCard.NESTING, 7);
            dueReturned("a run after it, with its own steps, stack and transaction", card, 1, time, time);
        }
    }

    private static void exportedOrNot() {
        sentence("as a run of its own; exported or not.");
        for (int number = 0; number < 6; number++) {
            TearSafeCard card = card();
            loadGood(card, number / 2, number % 2, false, PUSH, 6, RETURN, 0);
            dueReturned("not exported", card, number, 0, 6);
            loadGood(card, number / 2, number % 2, true, PUSH, 7, RETURN, 0);
            dueReturned("exported", card, number, 0, 7);
        }
    }

    private static void runRefused() {
        sentence("applet or method out of range: REFUSED");
        TearSafeCard card = card();
        for (int number = 0; number < 6; number++) {
            loadGood(card, number / 2, number % 2, true, PUSH, 1, NEW, 0, SETROOT, 0, PUSH, 3, RETURN, 0);
        }
        for (int[] pair : OUT) {
            due("run" + at(pair), card.run(pair[0], pair[1], 0), REFUSED);
        }
        due("nothing has run", card.held(), 0);
        due("nothing has run", card.result(), 0);
        due("out of range comes before absent", card().run(3, 0, 0), REFUSED);
    }

    private static void runAbsent() {
        sentence("absent: ABSENT (no run).");
        for (int number = 0; number < 6; number++) {
            TearSafeCard card = card();
            for (int other = 0; other < 6; other++) {
                if (other != number) {
                    loadGood(card, other / 2, other % 2, true, LOAD, 0, JZERO, 3, JUMP, 5, COMMIT, 0, JUMP, 4, LOAD, 0, RETURN, 0);
                }
            }
            due("method " + number, card.run(number / 2, number % 2, 0), TearSafeCard.ABSENT);
            due("no run: result at first", card.result(), 0);
            due("no run: place at first", card.place(), -1);
            int other = (number + 1) % 6;
            dueReturned("another method", card, other, 8, 8);
            due("method " + number, card.run(number / 2, number % 2, 0), TearSafeCard.ABSENT);
            due("no run: result stays", card.result(), 8);
            dueFailed("another method", card, other, 0, TearSafeCard.NESTING, 3);
            due("method " + number, card.run(number / 2, number % 2, 0), TearSafeCard.ABSENT);
            due("no run: place stays", card.place(), 16 * other + 3);
        }
    }

    private static void howItEnded() {
        sentence("Else how the run ended.");
        due("RETURNED", ended(0, LOAD, 0, RETURN, 0), 0);
        due("STEPS", ended(0, JUMP, 0), 1);
        due("NULL", ended(0, NULL, 0, LENGTH, 0, RETURN, 0), 2);
        due("WALL", ended(0, FOREIGN, 2, LENGTH, 0, RETURN, 0), 3);
        due("BOUNDS", ended(0, LOAD, 0, NEW, 0, LENGTH, 0, RETURN, 0), 4);
        due("ABSENT", ended(0, LOAD, 0, CALL, 5, RETURN, 0), 5);
        due("DEPTH", ended(0, LOAD, 0, CALL, 0, RETURN, 0), 6);
        due("MEMORY", ended(1, LOAD, 0, NEW, 0, PUSH, 1, NEW, 0, PUSH, 1, NEW, 0, LENGTH, 0, RETURN, 0), 7);
        due("NESTING", ended(0, COMMIT, 0, LOAD, 0, RETURN, 0), 8);
        TearSafeCard card = card();
        loadGood(card, 0, 0, true, NULL, 0, SETROOT, 0, LOAD, 0, RETURN, 0);
        card.tear(0);
        due("TORN", card.run(0, 0, 0), 9);
    }

    private static int ended(int arg, int... code) {
        TearSafeCard card = card();
        fillRoots(card);
        loadGood(card, 0, 0, true, code);
        return card.run(0, 0, arg);
    }

    private static void result() {
        sentence("The number that the last run answered, if it RETURNED, else 0. At first 0.");
        TearSafeCard card = card();
        due("at first", card.result(), 0);
        loadGood(card, 0, 0, true, LOAD, 0, RETURN, 0);
        loadGood(card, 0, 1, true, LOAD, 0, CALL, 0, BEGIN, 0, BEGIN, 0, RETURN, 0);
        due("before any run", card.result(), 0);
        int[] numbers = {-32768, -1, 0, 1, 32767};
        for (int number : numbers) {
            dueReturned("the number answered", card, 0, number, number);
            due("asked twice", card.result(), number);
            dueFailed("a failure, though a called method has answered", card, 1, number, TearSafeCard.NESTING, 3);
            due("asked twice", card.result(), 0);
        }
        dueReturned("a run", card, 0, 9, 9);
        card.put(PUSH, 1);
        card.install(0, 0, true);
        card.tear(3);
        card.reset();
        card.run(0, 2, 0);
        card.run(2, 0, 0);
        due("the last run's, whatever was called since", card.result(), 9);
    }

    private static void place() {
        sentence("Where the last run failed: 32 * applet + 16 * method + the instruction's number");
        for (int number = 0; number < 6; number++) {
            for (int at = 0; at <= 15; at++) {
                TearSafeCard card = new TearSafeCard(20);
                int[] code = times(16, JUMP, at);
                loadGood(card, number / 2, number % 2, true, code);
                card.run(number / 2, number % 2, 0);
                due("STEPS at " + at + " of method " + number, card.place(), 32 * (number / 2) + 16 * (number % 2) + at);
                if (at < 15) {
                    code[2 * at] = ABORT;
                    loadGood(card, number / 2, number % 2, true, code);
                    card.run(number / 2, number % 2, 0);
                    due("NESTING at " + at + " of method " + number, card.place(), 32 * (number / 2) + 16 * (number % 2) + at);
                }
            }
        }
        TearSafeCard card = card();
        loadGood(card, 0, 0, true, LOAD, 0, CALL, 5, RETURN, 0);
        loadGood(card, 2, 1, true, BEGIN, 0, BEGIN, 0, LOAD, 0, RETURN, 0);
        card.run(0, 0, 0);
        due("a failure in a called method", card.place(), 64 + 16 + 1);
        due("asked twice", card.place(), 64 + 16 + 1);
    }

    private static void noPlace() {
        sentence("-1 if it RETURNED or there was none.");
        TearSafeCard card = card();
        due("there was none", card.place(), -1);
        due("absent", card.run(0, 0, 0), TearSafeCard.ABSENT);
        due("refused", card.run(-1, 0, 0), REFUSED);
        due("there still was none", card.place(), -1);
        loadGood(card, 0, 0, true, LOAD, 0, JZERO, 4, LOAD, 0, RETURN, 0, COMMIT, 0, JUMP, 4);
        due("it RETURNED", card.run(0, 0, 1), TearSafeCard.RETURNED);
        due("it RETURNED", card.place(), -1);
        due("it failed", card.run(0, 0, 0), TearSafeCard.NESTING);
        due("it failed", card.place(), 4);
        due("it RETURNED again", card.run(0, 0, 1), TearSafeCard.RETURNED);
        due("it RETURNED again", card.place(), -1);
    }

    /** Method 0 of applet 0 has one WRITE. */
    private static TearSafeCard writingCard() {
        TearSafeCard card = card();
        loadGood(card, 0, 0, true, NULL, 0, SETROOT, 0, LOAD, 0, RETURN, 0);
        return card;
    }

    private static int writesBeforeTorn(TearSafeCard card) {
        int count = 0;
        while (count < 120 && card.run(0, 0, 0) == TearSafeCard.RETURNED) {
            count++;
        }
        return count;
    }

    private static void tearInPlace() {
        sentence("A failure is awaited, see POWER, in place of any awaited before; n not 0 .. 100: none is.");
        int[][] pairs = {{0, 1}, {1, 0}, {0, 100}, {100, 0}, {5, 5}, {99, 100}, {100, 99}, {-1, 2}, {101, 2}};
        for (int[] pair : pairs) {
            TearSafeCard card = writingCard();
            card.tear(pair[0]);
            card.tear(pair[1]);
            due("tear" + at(pair) + " in turn", writesBeforeTorn(card), pair[1]);
            card.tear(pair[1]);
            due("a WRITE between", card.run(0, 0, 0), pair[1] == 0 ? TearSafeCard.TORN : TearSafeCard.RETURNED);
            card.tear(pair[1]);
            due("counted anew", writesBeforeTorn(card), pair[1]);
        }
        int[] none = {-1, -2, 101, 102, 256, MIN, MAX};
        for (int n : none) {
            TearSafeCard card = writingCard();
            card.tear(n);
            due("tear(" + n + ") alone", writesBeforeTorn(card), 120);
            card.tear(0);
            card.tear(n);
            due("tear(" + n + ") in place of tear(0)", writesBeforeTorn(card), 120);
        }
    }

    private static void tearAnswers() {
        sentence("Answers n, or -1.");
        TearSafeCard card = card();
        for (int n = -3; n <= 104; n++) {
            due("tear(" + n + ")", card.tear(n), n >= 0 && n <= 100 ? n : -1);
        }
        int[] far = {MIN, MIN + 1, -256, -100, 200, 256, 65536, MAX - 1, MAX};
        for (int n : far) {
            due("tear(" + n + ")", card.tear(n), -1);
        }
    }

    private static void reset() {
        sentence("Power off and on.");
        TearSafeCard card = fullCard();
        loadGood(card, 1, 1, true, PUSH, 2, NEW, 1, DUP, 0, SETROOT, 0, PUSH, 1, PUSH, 66, PUT, 0, LOAD, 0, RETURN, 0);
        dueReturned("a passing object", card, 3, 17, 17);
        due("its element", card.element(1, 0, 1), 66);
        card.put(PUSH, 5);
        card.reset();
        due("a passing element", card.element(1, 0, 1), 0);
        due("the passing object is there", card.traits(1, 0), 4);
        due("all objects are there", card.held(), 6);
        due("a lasting element", card.element(2, 1, 3), 54);
        due("result", card.result(), 17);
        due("place", card.place(), -1);
        due("the pending code", card.put(RETURN, 0), 2);
        due("the pending code", card.install(2, 0, true), 2);
        dueReturned("a method", card, 3, 18, 18);
        due("a new card", emptyAfterReset(), true);
    }

    private static boolean emptyAfterReset() {
        TearSafeCard card = card();
        card.reset();
        card.reset();
        return card.held() == 0 && card.result() == 0 && card.place() == -1 && card.put(PUSH, 0) == 1;
    }

    private static void length() {
        sentence("The length of the object of a root; 0 if it is null or the numbers are out of range.");
        TearSafeCard card = fullCard();
        for (int root = 0; root < 6; root++) {
            due("length of root " + root, card.length(root / 2, root % 2), size(root));
            due("a null root", card().length(root / 2, root % 2), 0);
        }
        for (int[] pair : OUT) {
            due("length" + at(pair), card.length(pair[0], pair[1]), 0);
        }
    }

    private static void element() {
        sentence("An element of the object of a root; 0 if there is none.");
        TearSafeCard card = fullCard();
        int[] wrong = {MIN, -5, -4, -1, 4, 5, 8, 65536, MAX};
        for (int root = 0; root < 6; root++) {
            for (int index = 0; index < 4; index++) {
                int want = index < size(root) ? 10 * root + index + 1 : 0;
                due("element " + index + " of root " + root, card.element(root / 2, root % 2, index), want);
                due("a null root", card().element(root / 2, root % 2, index), 0);
            }
            for (int index : wrong) {
                due("element " + index + " of root " + root, card.element(root / 2, root % 2, index), 0);
            }
        }
        for (int[] pair : OUT) {
            due("element 0 of" + at(pair), card.element(pair[0], pair[1], 0), 0);
            due("element 3 of" + at(pair), card.element(pair[0], pair[1], 3), 0);
        }
    }

    private static void traits() {
        sentence("Owner * 4, plus 2 if it is lasting, plus 1 if it is shared, of the object of a root; -1 if there is none.");
        for (int owner = 0; owner < 3; owner++) {
            for (int kind = 0; kind < 4; kind++) {
                TearSafeCard card = card();
                int end = kind % 2 == 1 ? SHARE : DROP;
                loadGood(card, owner, 0, true, PUSH, 1, NEW, kind >= 2 ? 0 : 1, DUP, 0, SETROOT, 1, end, 0, PUSH, 0, RETURN, 0);
                dueReturned("an object", card, 2 * owner, 0, 0);
                due("of applet " + owner + " and kind " + kind, card.traits(owner, 1), 4 * owner + kind);
                due("of a null root", card.traits(owner, 0), -1);
                int other = (owner + 1) % 3;
                loadGood(card, other, 0, true, FOREIGN, 2 * owner + 1, SETROOT, 0, PUSH, 0, RETURN, 0);
                dueReturned("another applet's root", card, 2 * other, 0, 0);
                due("the owner stays", card.traits(other, 0), 4 * owner + kind);
            }
        }
        TearSafeCard card = fullCard();
        for (int[] pair : OUT) {
            due("traits" + at(pair), card.traits(pair[0], pair[1]), -1);
        }
    }

    private static void same() {
        sentence("Whether roots (0 .. 5, 2 * applet + root) a and b refer to the same object (false where one is null).");
        for (int a = 0; a < 6; a++) {
            TearSafeCard card = fullCard();
            int b = (a + 3) % 6;
            loadGood(card, b / 2, 0, true, FOREIGN, a, SETROOT, b % 2, PUSH, 0, RETURN, 0);
            dueReturned("root " + b + " refers to what root " + a + " does", card, b / 2 * 2, 0, 0);
            for (int one = 0; one < 6; one++) {
                for (int other = 0; other < 6; other++) {
                    boolean want = one == other || one == a && other == b || one == b && other == a;
                    due("same(" + one + ", " + other + ")", card.same(one, other), want);
                }
            }
            due("null roots", card().same(a, a), false);
            due("two null roots", card().same(a, b), false);
            loadGood(card, b / 2, 0, true, NULL, 0, SETROOT, b % 2, PUSH, 0, RETURN, 0);
            dueReturned("root " + b + " is null", card, b / 2 * 2, 0, 0);
            due("one is null", card.same(a, b), false);
            due("one is null", card.same(b, a), false);
            due("one is null", card.same(b, b), false);
        }
        int[] out = {MIN, -6, -1, 6, 7, 65536, MAX};
        TearSafeCard card = fullCard();
        for (int one : out) {
            due("same(" + one + ", " + one + ")", card.same(one, one), false);
            for (int root = 0; root < 6; root++) {
                due("same(" + one + ", " + root + ")", card.same(one, root), false);
                due("same(" + root + ", " + one + ")", card.same(root, one), false);
            }
        }
    }

    private static void held() {
        sentence("How many objects the roots hold.");
        TearSafeCard card = card();
        due("none", card.held(), 0);
        for (int root = 0; root < 6; root++) {
            loadGood(card, root / 2, 0, true, PUSH, 1, NEW, root % 2, SETROOT, root % 2, PUSH, 0, RETURN, 0);
            dueReturned("one more", card, root / 2 * 2, 0, 0);
            due("one more", card.held(), root + 1);
        }
        for (int root = 0; root < 5; root++) {
            loadGood(card, root / 2, 0, true, FOREIGN, 5, SETROOT, root % 2, PUSH, 0, RETURN, 0);
            dueReturned("a root refers to the last one's object", card, root / 2 * 2, 0, 0);
            due("each object counts once", card.held(), 5 - root);
        }
        for (int root = 0; root < 6; root++) {
            due("as long as a root refers to it", card.held(), 1);
            loadGood(card, root / 2, 0, true, NULL, 0, SETROOT, root % 2, PUSH, 0, RETURN, 0);
            dueReturned("a root is set to null", card, root / 2 * 2, 0, 0);
        }
        due("none again", card.held(), 0);
    }

    private static void takenInEachCase() {
        sentence("install takes the pending code away in each case, also when it answers REFUSED or BAD");
        TearSafeCard card = card();
        for (int[] pair : OUT) {
            due("refused", load(card, pair[0], pair[1], true, PUSH, 1, RETURN, 0), REFUSED);
            due("nothing is pending", card.install(0, 0, true), BAD);
        }
        due("bad", load(card, 0, 0, true, PUSH, 1, ADD, 0), BAD);
        due("nothing is pending", card.put(PUSH, 1), 1);
        due("bad", card.install(0, 0, true), BAD);
        due("nothing is pending", card.install(0, 0, true), BAD);
        due("absent still", card.run(0, 0, 0), TearSafeCard.ABSENT);
        due("good", load(card, 0, 0, true, PUSH, 1, RETURN, 0), 2);
        due("nothing is pending", card.put(PUSH, 1), 1);
        due("sixteen that are bad", load(card(), 0, 0, true, times(16, PUSH, 1)), BAD);
        TearSafeCard full = card();
        due("sixteen that are refused", load(full, 3, 0, true, times(16, JUMP, 0)), REFUSED);
        due("there is room again", load(full, 2, 0, true, times(16, JUMP, 0)), 16);
    }

    private static void refusedBeforeBad() {
        sentence("REFUSED is tested before BAD.");
        for (int[] pair : OUT) {
            TearSafeCard card = card();
            due("no code", card.install(pair[0], pair[1], true), REFUSED);
            due("a wrong b", load(card, pair[0], pair[1], false, PUSH, 128), REFUSED);
            due("no entry", load(card, pair[0], pair[1], true, DROP, 0, JUMP, 1), REFUSED);
        }
    }

    private static void anyB() {
        sentence("put takes any b: whether it fits its instruction is looked at by install alone.");
        int[] any = {MIN, MIN + 1, -65536, -129, -128, -1, 0, 1, 2, 5, 6, 15, 16, 127, 128, 65536, MAX};
        for (int b : any) {
            TearSafeCard card = card();
            for (int op = 0; op <= 24; op++) {
                due("put(" + op + ", " + b + ")", card.put(op, b), op % 16 + 1);
                if (op == 15) {
                    card.install(-1, 0, true);
                }
            }
        }
        TearSafeCard card = card();
        due("a JUMP further than there is code yet", card.put(JUMP, 2), 1);
        card.put(BEGIN, 0);
        card.put(JUMP, 1);
        due("is looked at when there is", card.install(0, 0, true), 3);
        due("a PUSH that does not fit", card.put(PUSH, 1000), 1);
        card.put(RETURN, 0);
        due("is looked at by install", card.install(0, 0, true), BAD);
    }
}

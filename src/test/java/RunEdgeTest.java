/** The edges that the sections on promises 4 to 8 name, sentence by sentence. */
final class RunEdgeTest extends Support {
    private static final int MIN = Integer.MIN_VALUE;
    private static final int MAX = Integer.MAX_VALUE;
    private static final int REFUSED = TearSafeCard.REFUSED;

    public static void main(String[] args) {
        runCalls();
        runLowBits();
        runOfItsOwn();
        exportedOrNot();
        runRefused();
        runAbsent();
        howItEnded();
        result();
        place();
        noPlace();
        tearInPlace();
        tearAnswers();
        reset();
        end();
    }

    private static TearSafeCard card() {
        return new TearSafeCard(100);
    }

    private static void runCalls() {
        sentence("Calls the method from outside with a number");
        TearSafeCard card = card();
        for (int number = 0; number < 6; number++) {
            loadGood(card, number / 2, number % 2, false, LOAD, 0, PUSH, number, SUB, 0, RETURN, 0);
        }
        for (int number = 0; number < 6; number++) {
            dueReturned("method " + number, card, number, 50, 50 - number);
        }
    }

    private static void runLowBits() {
        sentence("(its low 16 bits with sign)");
        TearSafeCard card = card();
        loadGood(card, 0, 0, false, LOAD, 0, RETURN, 0);
        int[] given = {32767, 32768, -32768, -32769, 65535, 65536, 65537, -65535, -65536, -65537, 98304, MAX, MIN, MAX - 1, MIN + 1};
        int[] low = {32767, -32768, -32768, 32767, -1, 0, 1, 1, 0, -1, -32768, -1, 0, -2, 1};
        for (int i = 0; i < given.length; i++) {
            dueReturned("run with " + given[i], card, 0, given[i], low[i]);
        }
        loadGood(card, 0, 0, false, LOAD, 0, PUSH, 0, LESS, 0, RETURN, 0);
        dueReturned("32768 is less than 0", card, 0, 32768, 1);
        dueReturned("65536 is not", card, 0, 65536, 0);
        loadGood(card, 0, 0, false, LOAD, 0, NEW, 0, LENGTH, 0, RETURN, 0);
        dueReturned("65537 is a length of 1", card, 0, 65537, 1);
    }

    private static void runOfItsOwn() {
        sentence("as a run of its own");
        TearSafeCard card = new TearSafeCard(20);
        loadGood(card, 0, 0, false, BEGIN, 0, LOAD, 0, DUP, 0, STORE, 1, LOAD, 1, PUSH, 1, DROP, 0, BEGIN, 0, RETURN, 0);
        loadGood(card, 0, 1, false, BEGIN, 0, LOAD, 0, DUP, 0, STORE, 1, LOAD, 1, PUSH, 1, DROP, 0, RETURN, 0);
        for (int time = 0; time < 5; time++) {
            dueFailed("a failing run", card, 0, time, TearSafeCard.NESTING, 7);
            dueReturned("a run after it, with its own steps, stack and transaction", card, 1, time, time);
        }
    }

    private static void exportedOrNot() {
        sentence("as a run of its own; exported or not.");
        for (int number = 0; number < 6; number++) {
            TearSafeCard card = card();
            loadGood(card, number / 2, number % 2, false, PUSH, 6, RETURN, 0);
            dueReturned("not exported", card, number, 0, 6);
            loadGood(card, number / 2, number % 2, true, PUSH, 7, RETURN, 0);
            dueReturned("exported", card, number, 0, 7);
        }
    }

    private static void runRefused() {
        sentence("applet or method out of range: REFUSED");
        TearSafeCard card = card();
        for (int number = 0; number < 6; number++) {
            loadGood(card, number / 2, number % 2, true, PUSH, 1, NEW, 0, SETROOT, 0, PUSH, 3, RETURN, 0);
        }
        for (int[] pair : OUT) {
            due("run" + at(pair), card.run(pair[0], pair[1], 0), REFUSED);
        }
        due("nothing has run", card.held(), 0);
        due("nothing has run", card.result(), 0);
        due("out of range comes before absent", card().run(3, 0, 0), REFUSED);
    }

    private static void runAbsent() {
        sentence("absent: ABSENT (no run).");
        for (int number = 0; number < 6; number++) {
            TearSafeCard card = card();
            for (int other = 0; other < 6; other++) {
                if (other != number) {
                    loadGood(card, other / 2, other % 2, true, LOAD, 0, JZERO, 3, JUMP, 5, COMMIT, 0, JUMP, 4, LOAD, 0, RETURN, 0);
                }
            }
            due("method " + number, card.run(number / 2, number % 2, 0), TearSafeCard.ABSENT);
            due("no run: result at first", card.result(), 0);
            due("no run: place at first", card.place(), -1);
            int other = (number + 1) % 6;
            dueReturned("another method", card, other, 8, 8);
            due("method " + number, card.run(number / 2, number % 2, 0), TearSafeCard.ABSENT);
            due("no run: result stays", card.result(), 8);
            dueFailed("another method", card, other, 0, TearSafeCard.NESTING, 3);
            due("method " + number, card.run(number / 2, number % 2, 0), TearSafeCard.ABSENT);
            due("no run: place stays", card.place(), 16 * other + 3);
        }
    }

    private static void howItEnded() {
        sentence("Else how the run ended.");
        due("RETURNED", ended(0, LOAD, 0, RETURN, 0), 0);
        due("STEPS", ended(0, JUMP, 0), 1);
        due("NULL", ended(0, NULL, 0, LENGTH, 0, RETURN, 0), 2);
        due("WALL", ended(0, FOREIGN, 2, LENGTH, 0, RETURN, 0), 3);
        due("BOUNDS", ended(0, LOAD, 0, NEW, 0, LENGTH, 0, RETURN, 0), 4);
        due("ABSENT", ended(0, LOAD, 0, CALL, 5, RETURN, 0), 5);
        due("DEPTH", ended(0, LOAD, 0, CALL, 0, RETURN, 0), 6);
        due("MEMORY", ended(1, LOAD, 0, NEW, 0, PUSH, 1, NEW, 0, PUSH, 1, NEW, 0, LENGTH, 0, RETURN, 0), 7);
        due("NESTING", ended(0, COMMIT, 0, LOAD, 0, RETURN, 0), 8);
        TearSafeCard card = card();
        loadGood(card, 0, 0, true, NULL, 0, SETROOT, 0, LOAD, 0, RETURN, 0);
        card.tear(0);
        due("TORN", card.run(0, 0, 0), 9);
    }

    private static int ended(int arg, int... code) {
        TearSafeCard card = card();
        fillRoots(card);
        loadGood(card, 0, 0, true, code);
        return card.run(0, 0, arg);
    }

    private static void result() {
        sentence("The number that the last run answered, if it RETURNED, else 0. At first 0.");
        TearSafeCard card = card();
        due("at first", card.result(), 0);
        loadGood(card, 0, 0, true, LOAD, 0, RETURN, 0);
        loadGood(card, 0, 1, true, LOAD, 0, CALL, 0, BEGIN, 0, BEGIN, 0, RETURN, 0);
        due("before any run", card.result(), 0);
        int[] numbers = {-32768, -1, 0, 1, 32767};
        for (int number : numbers) {
            dueReturned("the number answered", card, 0, number, number);
            due("asked twice", card.result(), number);
            dueFailed("a failure, though a called method has answered", card, 1, number, TearSafeCard.NESTING, 3);
            due("asked twice", card.result(), 0);
        }
        dueReturned("a run", card, 0, 9, 9);
        card.put(PUSH, 1);
        card.install(0, 0, true);
        card.tear(3);
        card.reset();
        card.run(0, 2, 0);
        card.run(2, 0, 0);
        due("the last run's, whatever was called since", card.result(), 9);
    }

    private static void place() {
        sentence("Where the last run failed: 32 * applet + 16 * method + the instruction's number");
        for (int number = 0; number < 6; number++) {
            for (int at = 0; at <= 15; at++) {
                TearSafeCard card = new TearSafeCard(20);
                int[] code = times(16, JUMP, at);
                loadGood(card, number / 2, number % 2, true, code);
                card.run(number / 2, number % 2, 0);
                due("STEPS at " + at + " of method " + number, card.place(), 32 * (number / 2) + 16 * (number % 2) + at);
                if (at < 15) {
                    code[2 * at] = ABORT;
                    loadGood(card, number / 2, number % 2, true, code);
                    card.run(number / 2, number % 2, 0);
                    due("NESTING at " + at + " of method " + number, card.place(), 32 * (number / 2) + 16 * (number % 2) + at);
                }
            }
        }
        TearSafeCard card = card();
        loadGood(card, 0, 0, true, LOAD, 0, CALL, 5, RETURN, 0);
        loadGood(card, 2, 1, true, BEGIN, 0, BEGIN, 0, LOAD, 0, RETURN, 0);
        card.run(0, 0, 0);
        due("a failure in a called method", card.place(), 64 + 16 + 1);
        due("asked twice", card.place(), 64 + 16 + 1);
    }

    private static void noPlace() {
        sentence("-1 if it RETURNED or there was none.");
        TearSafeCard card = card();
        due("there was none", card.place(), -1);
        due("absent", card.run(0, 0, 0), TearSafeCard.ABSENT);
        due("refused", card.run(-1, 0, 0), REFUSED);
        due("there still was none", card.place(), -1);
        loadGood(card, 0, 0, true, LOAD, 0, JZERO, 4, LOAD, 0, RETURN, 0, COMMIT, 0, JUMP, 4);
        due("it RETURNED", card.run(0, 0, 1), TearSafeCard.RETURNED);
        due("it RETURNED", card.place(), -1);
        due("it failed", card.run(0, 0, 0), TearSafeCard.NESTING);
        due("it failed", card.place(), 4);
        due("it RETURNED again", card.run(0, 0, 1), TearSafeCard.RETURNED);
        due("it RETURNED again", card.place(), -1);
    }

    /** Method 0 of applet 0 has one WRITE. */
    private static TearSafeCard writingCard() {
        TearSafeCard card = card();
        loadGood(card, 0, 0, true, NULL, 0, SETROOT, 0, LOAD, 0, RETURN, 0);
        return card;
    }

    private static int writesBeforeTorn(TearSafeCard card) {
        int count = 0;
        while (count < 120 && card.run(0, 0, 0) == TearSafeCard.RETURNED) {
            count++;
        }
        return count;
    }

    private static void tearInPlace() {
        sentence("A failure is awaited, see POWER, in place of any awaited before; n not 0 .. 100: none is.");
        int[][] pairs = {{0, 1}, {1, 0}, {0, 100}, {100, 0}, {5, 5}, {99, 100}, {100, 99}, {-1, 2}, {101, 2}};
        for (int[] pair : pairs) {
            TearSafeCard card = writingCard();
            card.tear(pair[0]);
            card.tear(pair[1]);
            due("tear" + at(pair) + " in turn", writesBeforeTorn(card), pair[1]);
            card.tear(pair[1]);
            due("a WRITE between", card.run(0, 0, 0), pair[1] == 0 ? TearSafeCard.TORN : TearSafeCard.RETURNED);
            card.tear(pair[1]);
            due("counted anew", writesBeforeTorn(card), pair[1]);
        }
        int[] none = {-1, -2, 101, 102, 256, MIN, MAX};
        for (int n : none) {
            TearSafeCard card = writingCard();
            card.tear(n);
            due("tear(" + n + ") alone", writesBeforeTorn(card), 120);
            card.tear(0);
            card.tear(n);
            due("tear(" + n + ") in place of tear(0)", writesBeforeTorn(card), 120);
        }
    }

    private static void tearAnswers() {
        sentence("Answers n, or -1.");
        TearSafeCard card = card();
        for (int n = -3; n <= 104; n++) {
            due("tear(" + n + ")", card.tear(n), n >= 0 && n <= 100 ? n : -1);
        }
        int[] far = {MIN, MIN + 1, -256, -100, 200, 256, 65536, MAX - 1, MAX};
        for (int n : far) {
            due("tear(" + n + ")", card.tear(n), -1);
        }
    }

    private static void reset() {
        sentence("Power off and on.");
        TearSafeCard card = fullCard();
        loadGood(card, 1, 1, true, PUSH, 2, NEW, 1, DUP, 0, SETROOT, 0, PUSH, 1, PUSH, 66, PUT, 0, LOAD, 0, RETURN, 0);
        dueReturned("a passing object", card, 3, 17, 17);
        due("its element", card.element(1, 0, 1), 66);
        card.put(PUSH, 5);
        card.reset();
        due("a passing element", card.element(1, 0, 1), 0);
        due("the passing object is there", card.traits(1, 0), 4);
        due("all objects are there", card.held(), 6);
        due("a lasting element", card.element(2, 1, 3), 54);
        due("result", card.result(), 17);
        due("place", card.place(), -1);
        due("the pending code", card.put(RETURN, 0), 2);
        due("the pending code", card.install(2, 0, true), 2);
        dueReturned("a method", card, 3, 18, 18);
        loadGood(card, 1, 1, true, BEGIN, 0, BEGIN, 0, JUMP, 2);
        dueFailed("a failing run", card, 3, 0, TearSafeCard.NESTING, 1);
        card.reset();
        due("where it failed", card.place(), 16 * 3 + 1);
        due("a new card", emptyAfterReset(), true);
    }

    private static boolean emptyAfterReset() {
        TearSafeCard card = card();
        card.reset();
        card.reset();
        return card.held() == 0 && card.result() == 0 && card.place() == -1 && card.put(PUSH, 0) == 1;
    }
}

/** Promises 3 and 14: install, and CHECKING. */
final class InstallTest extends Support {
    private static final int BAD = TearSafeCard.BAD;

    public static void main(String[] args) {
        refused();
        badKeepsTheMethod();
        replaces();
        everyB();
        bOfUnreachedCode();
        kinds();
        entriesTaken();
        entriesLeft();
        locals();
        behindTheLast();
        waysMeet();
        end();
    }

    private static void refused() {
        int[][] wrong = {{-1, 0}, {3, 0}, {0, -1}, {0, 2}, {2, 2}, {3, 1}, {0, 3}, {1, 4},
            {Integer.MIN_VALUE, 0}, {Integer.MAX_VALUE, 0}, {0, Integer.MIN_VALUE}, {0, Integer.MAX_VALUE}};
        TearSafeCard card = new TearSafeCard(100);
        for (int[] pair : wrong) {
            String what = "install(" + pair[0] + ", " + pair[1] + ")";
            due(what + " of good code", load(card, pair[0], pair[1], true, PUSH, 1, RETURN, 0), TearSafeCard.REFUSED);
            due(what + " has taken the code", card.install(0, 0, true), BAD);
            due(what + " of bad code", load(card, pair[0], pair[1], true, ADD, 0), TearSafeCard.REFUSED);
            due(what + " of no code", card.install(pair[0], pair[1], true), TearSafeCard.REFUSED);
            due("put after it", card.put(PUSH, 1), 1);
            card.install(0, 0, true);
        }
        for (int number = 0; number < 6; number++) {
            due("no method came of it", card.run(number / 2, number % 2, 0), TearSafeCard.ABSENT);
        }
    }

    private static void badKeepsTheMethod() {
        TearSafeCard card = new TearSafeCard(100);
        loadGood(card, 0, 0, false, PUSH, 7, RETURN, 0);
        loadGood(card, 1, 0, false, LOAD, 0, CALL, 0, RETURN, 0);
        due("bad code", load(card, 0, 0, true, PUSH, 8, ADD, 0, RETURN, 0), BAD);
        due("the bad code is taken away", card.install(0, 0, true), BAD);
        dueReturned("the method stays", card, 0, 0, 7);
        dueFailed("it stays not exported", card, 2, 0, TearSafeCard.WALL, 1);
    }

    private static void replaces() {
        TearSafeCard card = new TearSafeCard(100);
        for (int number = 0; number < 6; number++) {
            loadGood(card, number / 2, number % 2, true, PUSH, 10 + number, RETURN, 0);
        }
        for (int number = 0; number < 6; number++) {
            dueReturned("each method is its own", card, number, 0, 10 + number);
        }
        loadGood(card, 1, 0, false, PUSH, 1, PUSH, 2, ADD, 0, RETURN, 0);
        dueReturned("the new code", card, 2, 0, 3);
        dueReturned("the one beside it", card, 3, 0, 13);
        loadGood(card, 0, 0, false, LOAD, 0, CALL, 2, RETURN, 0);
        dueFailed("no longer exported", card, 0, 0, TearSafeCard.WALL, 1);
        loadGood(card, 1, 0, true, PUSH, 4, RETURN, 0);
        dueReturned("exported again", card, 0, 0, 4);
    }

    private static void everyB() {
        int[] tried = {Integer.MIN_VALUE, -129, -128, -127, -2, -1, 0, 1, 2, 3, 4, 5, 6, 7, 126, 127, 128, 129, 256,
            65536, Integer.MAX_VALUE};
        for (int b : tried) {
            boolean two = b == 0 || b == 1;
            boolean six = b >= 0 && b <= 5;
            goodOrBad("PUSH " + b, b >= -128 && b <= 127, PUSH, b, RETURN, 0);
            goodOrBad("LOAD " + b, two, PUSH, 1, STORE, 1, LOAD, b, RETURN, 0);
            goodOrBad("STORE " + b, two, PUSH, 1, STORE, b, LOAD, 0, RETURN, 0);
            goodOrBad("ROOT " + b, two, ROOT, b, PUSH, 0, RETURN, 0);
            goodOrBad("SETROOT " + b, two, NULL, 0, SETROOT, b, PUSH, 0, RETURN, 0);
            goodOrBad("NEW " + b, two, PUSH, 1, NEW, b, PUSH, 0, RETURN, 0);
            goodOrBad("FOREIGN " + b, six, FOREIGN, b, PUSH, 0, RETURN, 0);
            goodOrBad("CALL " + b, six, PUSH, 0, CALL, b, RETURN, 0);
            goodOrBad("JUMP " + b, b >= 0 && b <= 3, BEGIN, 0, JUMP, b, COMMIT, 0, JUMP, 0);
            goodOrBad("JZERO " + b, b == 0 || b == 1 || b == 3, BEGIN, 0, PUSH, 0, JZERO, b, JUMP, 0);
        }
    }

    private static void bOfUnreachedCode() {
        bad("a wrong b behind RETURN", LOAD, 0, RETURN, 0, PUSH, 128);
        bad("a wrong target behind RETURN", LOAD, 0, RETURN, 0, JUMP, 3);
        bad("a wrong local behind RETURN", LOAD, 0, RETURN, 0, LOAD, 2);
        good("unreached code takes what is not there", LOAD, 0, RETURN, 0, ADD, 0);
        good("unreached code may go on behind the last", LOAD, 0, RETURN, 0, PUSH, 1);
        good("code jumped over", JUMP, 2, DROP, 0, LOAD, 0, RETURN, 0, LOAD, 1);
    }

    /** Each instruction with a number where it takes a reference, and the other way round. */
    private static void kinds() {
        int[] binary = {ADD, SUB, MUL, LESS};
        for (int op : binary) {
            good("two numbers for " + op, PUSH, 1, PUSH, 2, op, 0, RETURN, 0);
            bad("a reference on top for " + op, PUSH, 1, NULL, 0, op, 0, RETURN, 0);
            bad("a reference below for " + op, NULL, 0, PUSH, 1, op, 0, RETURN, 0);
        }
        bad("JZERO of a reference", NULL, 0, JZERO, 2, LOAD, 0, RETURN, 0);
        bad("RETURN of a reference", NULL, 0, RETURN, 0);
        bad("CALL with a reference", NULL, 0, CALL, 0, RETURN, 0);
        bad("NEW with a reference", NULL, 0, NEW, 0, LOAD, 0, RETURN, 0);
        bad("SETROOT of a number", PUSH, 1, SETROOT, 0, LOAD, 0, RETURN, 0);
        bad("SHARE of a number", PUSH, 1, SHARE, 0, LOAD, 0, RETURN, 0);
        bad("LENGTH of a number", PUSH, 1, LENGTH, 0, RETURN, 0);
        good("GET", NULL, 0, PUSH, 0, GET, 0, RETURN, 0);
        bad("GET the other way round", PUSH, 0, NULL, 0, GET, 0, RETURN, 0);
        bad("GET of numbers", PUSH, 0, PUSH, 0, GET, 0, RETURN, 0);
        good("PUT", NULL, 0, PUSH, 0, PUSH, 1, PUT, 0, LOAD, 0, RETURN, 0);
        bad("PUT with the reference in the middle", PUSH, 0, NULL, 0, PUSH, 1, PUT, 0, LOAD, 0, RETURN, 0);
        bad("PUT of a reference", NULL, 0, PUSH, 0, NULL, 0, PUT, 0, LOAD, 0, RETURN, 0);
        addedKinds();
    }

    private static void addedKinds() {
        bad("GET adds a number", NULL, 0, PUSH, 0, GET, 0, LENGTH, 0, RETURN, 0);
        bad("LENGTH adds a number", NULL, 0, LENGTH, 0, LENGTH, 0, RETURN, 0);
        bad("CALL adds a number", PUSH, 0, CALL, 0, LENGTH, 0, RETURN, 0);
        bad("NEW adds a reference", PUSH, 1, NEW, 0, RETURN, 0);
        bad("ROOT adds a reference", ROOT, 0, RETURN, 0);
        bad("FOREIGN adds a reference", FOREIGN, 0, RETURN, 0);
        good("NEW, LENGTH", PUSH, 1, NEW, 1, LENGTH, 0, RETURN, 0);
        good("ROOT, LENGTH", ROOT, 1, LENGTH, 0, RETURN, 0);
        good("FOREIGN, LENGTH", FOREIGN, 5, LENGTH, 0, RETURN, 0);
        bad("DUP of a reference", NULL, 0, DUP, 0, RETURN, 0);
        good("DUP of a number", PUSH, 1, DUP, 0, RETURN, 0);
        good("DROP of a reference", PUSH, 1, NULL, 0, DROP, 0, RETURN, 0);
        bad("a reference stored and loaded", NULL, 0, STORE, 0, LOAD, 0, RETURN, 0);
        bad("local 0 is a number", LOAD, 0, LENGTH, 0, RETURN, 0);
    }

    private static void entriesTaken() {
        int[] takesOne = {STORE, JZERO, SETROOT, NEW, SHARE, LENGTH, CALL, RETURN, DUP, DROP};
        for (int op : takesOne) {
            bad("nothing for " + op, op, 0, PUSH, 0, PUSH, 0, RETURN, 0);
        }
        int[] takesTwo = {ADD, SUB, MUL, LESS};
        for (int op : takesTwo) {
            bad("nothing for " + op, op, 0, PUSH, 0, RETURN, 0);
            bad("one for " + op, PUSH, 0, op, 0, PUSH, 0, RETURN, 0);
        }
        bad("one for GET", PUSH, 0, GET, 0, PUSH, 0, RETURN, 0);
        bad("two for PUT", PUSH, 0, PUSH, 0, PUT, 0, PUSH, 0, RETURN, 0);
        good("BEGIN, COMMIT, ABORT take nothing", BEGIN, 0, COMMIT, 0, ABORT, 0, PUSH, 0, RETURN, 0);
        good("RETURN may leave entries", PUSH, 0, NULL, 0, PUSH, 0, RETURN, 0);
    }

    private static void entriesLeft() {
        int[] adds = {PUSH, LOAD, ROOT, FOREIGN, NULL, DUP};
        for (int op : adds) {
            good("a fourth by " + op, PUSH, 0, PUSH, 0, PUSH, 0, op, 0, DROP, 0, RETURN, 0);
            bad("a fifth by " + op, PUSH, 0, PUSH, 0, PUSH, 0, PUSH, 0, op, 0, DROP, 0, RETURN, 0);
        }
        good("NEW with four entries", PUSH, 0, PUSH, 0, PUSH, 0, PUSH, 0, NEW, 0, DROP, 0, RETURN, 0);
        good("CALL with four entries", PUSH, 0, PUSH, 0, PUSH, 0, PUSH, 0, CALL, 0, RETURN, 0);
        good("sixteen instructions", PUSH, 0, PUSH, 0, PUSH, 0, PUSH, 0, ADD, 0, PUSH, 0, ADD, 0, PUSH, 0, ADD, 0,
            PUSH, 0, ADD, 0, PUSH, 0, ADD, 0, ADD, 0, ADD, 0, RETURN, 0);
    }

    private static void locals() {
        bad("local 1 is unset", LOAD, 1, RETURN, 0);
        good("local 1 is set", LOAD, 0, STORE, 1, LOAD, 1, RETURN, 0);
        good("local 1 is unset in unreached code", LOAD, 0, RETURN, 0, LOAD, 1, RETURN, 0);
        bad("local 1 is set on one way", LOAD, 0, JZERO, 4, PUSH, 1, STORE, 1, LOAD, 1, RETURN, 0);
        good("set on one way, not loaded", LOAD, 0, JZERO, 4, PUSH, 1, STORE, 1, LOAD, 0, RETURN, 0);
        good("set on both ways", LOAD, 0, JZERO, 5, PUSH, 1, STORE, 1, JUMP, 7, PUSH, 2, STORE, 1, LOAD, 1, RETURN, 0);
        good("set to both kinds, dropped", LOAD, 0, JZERO, 5, PUSH, 1, STORE, 1, JUMP, 7, NULL, 0, STORE, 1,
            LOAD, 1, DROP, 0, LOAD, 0, RETURN, 0);
        bad("set to both kinds, taken as a number", LOAD, 0, JZERO, 5, PUSH, 1, STORE, 1, JUMP, 7, NULL, 0, STORE, 1,
            LOAD, 1, RETURN, 0);
        bad("set to both kinds, taken as a reference", LOAD, 0, JZERO, 5, PUSH, 1, STORE, 1, JUMP, 7, NULL, 0, STORE, 1,
            LOAD, 1, LENGTH, 0, RETURN, 0);
        bad("the second round finds a reference", LOAD, 0, JZERO, 4, NULL, 0, STORE, 0, JUMP, 0);
        bad("the third round finds a reference", PUSH, 1, STORE, 1, LOAD, 0, JZERO, 4, LOAD, 1, STORE, 0, NULL, 0, STORE, 1, JUMP, 2);
        good("the third round finds a number", PUSH, 1, STORE, 1, LOAD, 0, JZERO, 4, LOAD, 1, STORE, 0, PUSH, 0, STORE, 1, JUMP, 2);
        bad("the fourth round finds a reference", PUSH, 1, STORE, 1, PUSH, 1, LOAD, 0, JZERO, 5, STORE, 0, LOAD, 1, NULL, 0,
            STORE, 1, JUMP, 3);
        good("the fourth round finds a number", PUSH, 1, STORE, 1, PUSH, 1, LOAD, 0, JZERO, 5, STORE, 0, LOAD, 1, PUSH, 0,
            STORE, 1, JUMP, 3);
        good("the second round sets again", LOAD, 0, JZERO, 0, PUSH, 1, STORE, 0, JUMP, 0);
    }

    private static void behindTheLast() {
        bad("no RETURN", PUSH, 1);
        bad("CALL goes on behind it", PUSH, 1, CALL, 0);
        bad("JZERO as the last", PUSH, 1, JZERO, 0);
        good("JUMP as the last", JUMP, 0);
        good("JUMP to itself behind others", BEGIN, 0, JUMP, 1);
        bad("COMMIT as the last", COMMIT, 0);
        due("no code", new TearSafeCard(100).install(0, 0, true), BAD);
    }

    private static void waysMeet() {
        bad("one entry or none", LOAD, 0, JZERO, 3, PUSH, 1, LOAD, 0, RETURN, 0);
        good("one entry on both", LOAD, 0, JZERO, 4, PUSH, 1, RETURN, 0, PUSH, 2, JUMP, 3);
        bad("a round that adds an entry", PUSH, 1, JUMP, 0);
        bad("a round that takes an entry", PUSH, 1, PUSH, 1, DROP, 0, JUMP, 2);
        good("both kinds meet and are dropped", LOAD, 0, JZERO, 4, NULL, 0, JUMP, 5, PUSH, 1, DROP, 0, LOAD, 0, RETURN, 0);
        good("both kinds meet, are doubled and stored", LOAD, 0, JZERO, 4, NULL, 0, JUMP, 5, PUSH, 1, DUP, 0, STORE, 1,
            STORE, 0, PUSH, 3, RETURN, 0);
        bad("both kinds meet and are returned", LOAD, 0, JZERO, 4, NULL, 0, JUMP, 5, PUSH, 1, RETURN, 0);
        bad("JZERO goes both ways whatever the number is", PUSH, 0, JZERO, 3, RETURN, 0, PUSH, 1, RETURN, 0);
        bad("the way to an earlier instruction", JUMP, 3, ADD, 0, RETURN, 0, PUSH, 1, JUMP, 1);
        good("a way to an earlier instruction", JUMP, 3, ADD, 0, RETURN, 0, PUSH, 1, PUSH, 1, JUMP, 1);
    }
}

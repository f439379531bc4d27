/** The edges that the table of INSTRUCTIONS names, an instruction or a sentence at a time. */
final class InstructionEdgeTest extends Support {
    private static final int[] ANY_B = {Integer.MIN_VALUE, -129, -2, -1, 2, 6, 16, 128, 65536, Integer.MAX_VALUE};

    public static void main(String[] args) {
        lastNamedIsTop();
        nextFollows();
        push();
        loadAndStore();
        addSubMul();
        less();
        jump();
        jzero();
        rootAndSetroot();
        newObject();
        newInAnotherPlace();
        get();
        putElement();
        share();
        lengthOf();
        foreign();
        nullReference();
        call();
        returnNumber();
        dup();
        drop();
        transactions();
        otherB();
        beginning();
        end();
    }

    private static TearSafeCard card() {
        return new TearSafeCard(250);
    }

    /** A card whose root 0 of applet 0 refers to a lasting object with the elements 11, 12 and so on. */
    private static TearSafeCard cardWithObject(int size) {
        TearSafeCard card = card();
        loadGood(card, 0, 0, true, PUSH, size, NEW, 0, SETROOT, 0, PUSH, 0, RETURN, 0);
        dueReturned("the object is made", card, 0, 0, 0);
        for (int index = 0; index < size; index++) {
            loadGood(card, 0, 0, true, ROOT, 0, PUSH, index, PUSH, 11 + index, PUT, 0, PUSH, 0, RETURN, 0);
            dueReturned("an element is set", card, 0, 0, 0);
        }
        return card;
    }

    private static void lastNamedIsTop() {
        sentence("\"takes\" from the top, the last named one being the top");
        good("GET with the index on top", NULL, 0, PUSH, 0, GET, 0, RETURN, 0);
        bad("GET with the reference on top", PUSH, 0, NULL, 0, GET, 0, RETURN, 0);
        good("PUT with the reference below two numbers", NULL, 0, PUSH, 0, PUSH, 0, PUT, 0, JUMP, 4);
        bad("PUT with the reference between them", PUSH, 0, NULL, 0, PUSH, 0, PUT, 0, JUMP, 4);
        bad("PUT with the reference on top", PUSH, 0, PUSH, 0, NULL, 0, PUT, 0, JUMP, 4);
        TearSafeCard card = cardWithObject(3);
        loadGood(card, 0, 1, true, ROOT, 0, PUSH, 1, PUSH, 2, PUT, 0, PUSH, 0, RETURN, 0);
        dueReturned("PUT of 2 at 1", card, 1, 0, 0);
        due("element 1", card.element(0, 0, 1), 2);
        due("element 2", card.element(0, 0, 2), 13);
        loadGood(card, 0, 1, true, PUSH, 1, PUSH, 2, PUSH, 3, LOAD, 0, JZERO, 6, RETURN, 0, DROP, 0, RETURN, 0);
        dueReturned("JZERO and RETURN take the top", card, 1, 1, 3);
        dueReturned("DROP takes the top", card, 1, 0, 2);
    }

    private static void nextFollows() {
        sentence("the next instruction follows unless said otherwise");
        TearSafeCard card = cardWithObject(1);
        loadGood(card, 0, 1, true, LOAD, 0, DUP, 0, STORE, 1, PUSH, 1, ADD, 0, ROOT, 0, LENGTH, 0, MUL, 0, NULL, 0, DROP, 0,
            BEGIN, 0, ABORT, 0, PUSH, 1, SUB, 0, COMMIT, 0, RETURN, 0);
        dueFailed("one after the other up to the sixteenth but one", card, 1, 5, TearSafeCard.NESTING, 14);
        loadGood(card, 1, 0, true, LOAD, 0, RETURN, 0);
        loadGood(card, 0, 1, true, LOAD, 0, CALL, 2, FOREIGN, 0, DUP, 0, SHARE, 0, DUP, 0, SETROOT, 1, PUSH, 0, GET, 0, LESS, 0,
            JZERO, 15, PUSH, 3, NEW, 0, DROP, 0, COMMIT, 0, JUMP, 15);
        dueFailed("a JZERO that does not go on at b", card, 1, 5, TearSafeCard.NESTING, 14);
        dueFailed("a JZERO that does", card, 1, 11, TearSafeCard.STEPS, 15);
    }

    private static void push() {
        sentence("0 PUSH b adds the number b (-128 .. 127)");
        TearSafeCard card = card();
        int[] right = {-128, -127, -1, 0, 1, 126, 127};
        for (int b : right) {
            loadGood(card, 0, 0, true, PUSH, b, RETURN, 0);
            dueReturned("PUSH " + b, card, 0, 0, b);
        }
        int[] wrong = {-129, 128, 255, 256, 65535, Integer.MIN_VALUE, Integer.MAX_VALUE};
        for (int b : wrong) {
            bad("PUSH " + b, PUSH, b, RETURN, 0);
        }
    }

    private static void loadAndStore() {
        sentence("1 LOAD b, 2 STORE b adds local b (0, 1); takes an entry into it");
        int[] wrong = {-1, 2, 3, Integer.MIN_VALUE, Integer.MAX_VALUE};
        for (int b : wrong) {
            bad("LOAD " + b, LOAD, 0, STORE, 1, LOAD, b, RETURN, 0);
            bad("STORE " + b, LOAD, 0, STORE, b, LOAD, 0, RETURN, 0);
        }
        TearSafeCard card = card();
        loadGood(card, 0, 0, true, PUSH, 50, LOAD, 0, STORE, 1, LOAD, 1, SUB, 0, RETURN, 0);
        dueReturned("STORE 1 takes the top entry alone, LOAD 1 adds it", card, 0, 8, 42);
        loadGood(card, 0, 0, true, PUSH, 50, STORE, 1, PUSH, 60, STORE, 0, LOAD, 0, LOAD, 0, LOAD, 1, SUB, 0, ADD, 0, RETURN, 0);
        dueReturned("a local stays when it is loaded", card, 0, 8, 70);
    }

    private static void addSubMul() {
        sentence("3 ADD 4 SUB 5 MUL take two numbers, add one");
        int[] due = {100 - (20 + 3), 100 - (20 - 3), 100 - 20 * 3};
        for (int op = ADD; op <= MUL; op++) {
            TearSafeCard card = card();
            loadGood(card, 0, 0, true, PUSH, 100, LOAD, 0, PUSH, 3, op, 0, SUB, 0, RETURN, 0);
            dueReturned("the two on top, with another below", card, 0, 20, due[op - ADD]);
            bad("one number for " + op, PUSH, 1, op, 0, RETURN, 0);
            good("two numbers for " + op, PUSH, 1, PUSH, 1, op, 0, RETURN, 0);
            bad("one is added by " + op, PUSH, 1, PUSH, 1, op, 0, DROP, 0, RETURN, 0);
        }
    }

    private static void less() {
        sentence("6 LESS takes two numbers; adds 1 if the lower one is less, else 0");
        int[] numbers = {-32768, -32767, -128, -1, 0, 1, 127, 32766, 32767};
        int[] uppers = {-128, -127, -1, 0, 1, 126, 127};
        for (int upper : uppers) {
            TearSafeCard card = card();
            loadGood(card, 0, 0, true, LOAD, 0, PUSH, upper, LESS, 0, RETURN, 0);
            loadGood(card, 0, 1, true, PUSH, upper, LOAD, 0, LESS, 0, RETURN, 0);
            for (int number : numbers) {
                dueReturned(number + " LESS " + upper, card, 0, number, number < upper ? 1 : 0);
                dueReturned(upper + " LESS " + number, card, 1, number, upper < number ? 1 : 0);
            }
            dueReturned(upper + " is not less than itself", card, 0, upper, 0);
        }
    }

    private static void jump() {
        sentence("7 JUMP b on at b (0 .. the last instruction's number)");
        for (int count = 1; count <= 16; count++) {
            int[] code = times(count, JUMP, 0);
            for (int b = -1; b <= 17; b++) {
                code[1] = b;
                goodOrBad("JUMP " + b + " in " + count + " instructions", b >= 0 && b < count, code);
            }
        }
        for (int b = 1; b <= 14; b++) {
            TearSafeCard card = card();
            loadGood(card, 0, 0, true, join(code(JUMP, b), times(b - 1, BEGIN, 0), code(PUSH, b, RETURN, 0)));
            dueReturned("JUMP " + b, card, 0, 0, b);
        }
        bad("JUMP " + Integer.MIN_VALUE, JUMP, Integer.MIN_VALUE);
        bad("JUMP " + Integer.MAX_VALUE, JUMP, Integer.MAX_VALUE);
    }

    private static void jzero() {
        sentence("8 JZERO b takes a number; on at b if it is 0");
        TearSafeCard card = card();
        loadGood(card, 0, 0, true, PUSH, 30, LOAD, 0, JZERO, 5, PUSH, 1, ADD, 0, RETURN, 0);
        dueReturned("JZERO of 0", card, 0, 0, 30);
        dueReturned("JZERO of 65536, which is 0", card, 0, 65536, 30);
        int[] others = {1, -1, 2, 256, -256, 32767, -32768};
        for (int number : others) {
            dueReturned("JZERO of " + number, card, 0, number, 31);
        }
        for (int count = 3; count <= 16; count++) {
            int[] code = join(code(LOAD, 0, JZERO, 0), times(count - 2, JUMP, 0));
            int[] right = {0, 2, count - 1};
            for (int to : right) {
                code[3] = to;
                good("JZERO " + to + " in " + count + " instructions", code);
            }
            int[] wrong = {-1, count, count + 1, Integer.MIN_VALUE, Integer.MAX_VALUE};
            for (int to : wrong) {
                code[3] = to;
                bad("JZERO " + to + " in " + count + " instructions", code);
            }
        }
    }

    private static void rootAndSetroot() {
        sentence("9 ROOT b, 10 SETROOT b adds the own applet's root b (0, 1); takes a reference into it");
        int[] wrong = {-1, 2, 3, 4, 5, Integer.MIN_VALUE, Integer.MAX_VALUE};
        for (int b : wrong) {
            bad("ROOT " + b, ROOT, b, LENGTH, 0, RETURN, 0);
            bad("SETROOT " + b, NULL, 0, SETROOT, b, PUSH, 0, RETURN, 0);
        }
        for (int number = 0; number < 6; number++) {
            TearSafeCard card = card();
            int applet = number / 2;
            int b = number % 2;
            loadGood(card, applet, 0, true, LOAD, 0, NEW, 0, SETROOT, b, ROOT, b, LENGTH, 0, RETURN, 0);
            dueReturned("SETROOT and ROOT of " + number, card, 2 * applet, 3, 3);
            due("that root", card.length(applet, b), 3);
            due("and no other", card.held(), 1);
            loadGood(card, applet, 0, true, ROOT, 1 - b, LENGTH, 0, RETURN, 0);
            dueFailed("the other root is null", card, 2 * applet, 0, TearSafeCard.NULL, 1);
            loadGood(card, applet, 0, true, ROOT, 1 - b, SETROOT, b, PUSH, 0, RETURN, 0);
            dueReturned("a null reference is taken too", card, 2 * applet, 0, 0);
            due("the root is null", card.length(applet, b), 0);
        }
    }

    private static void newObject() {
        sentence("11 NEW b takes a number (the length); adds a reference to a new object of the own applet, all elements 0, private, "
            + "lasting for b = 0, passing for b = 1");
        int[] wrong = {-1, 2, 3, Integer.MIN_VALUE, Integer.MAX_VALUE};
        for (int b : wrong) {
            bad("NEW " + b, PUSH, 1, NEW, b, LENGTH, 0, RETURN, 0);
        }
        for (int applet = 0; applet < 3; applet++) {
            TearSafeCard card = card();
            loadGood(card, applet, 0, true, LOAD, 0, NEW, 0, SETROOT, 0, LOAD, 0, NEW, 1, SETROOT, 1, PUSH, 0, RETURN, 0);
            for (int size = 1; size <= 4; size++) {
                dueReturned("NEW of " + size, card, 2 * applet, size, 0);
                due("the lasting one's length", card.length(applet, 0), size);
                due("the passing one's length", card.length(applet, 1), size);
                due("the lasting one's traits", card.traits(applet, 0), 4 * applet + 2);
                due("the passing one's traits", card.traits(applet, 1), 4 * applet);
                due("they are two", card.same(2 * applet, 2 * applet + 1), false);
            }
        }
        TearSafeCard card = card();
        loadGood(card, 2, 0, true, LOAD, 0, NEW, 0, SETROOT, 0, PUSH, 0, RETURN, 0);
        loadGood(card, 0, 0, true, LOAD, 0, CALL, 4, RETURN, 0);
        dueReturned("NEW of a called applet", card, 0, 2, 0);
        due("its owner is the applet whose method runs", card.traits(2, 0), 10);
    }

    /** Whatever room a new object gets, nothing of one that is gone may be seen in it. */
    private static void newInAnotherPlace() {
        sentence("a new object of the own applet, all elements 0, private");
        TearSafeCard card = card();
        loadGood(card, 1, 1, true, PUSH, 4, NEW, 1, DUP, 0, SETROOT, 0, SHARE, 0, LOAD, 0, RETURN, 0);
        loadGood(card, 0, 0, true, PUSH, 3, NEW, 0, SETROOT, 0, PUSH, 4, NEW, 1, SETROOT, 1, PUSH, 0, RETURN, 0);
        for (int time = 0; time < 3; time++) {
            dueReturned("a passing, shared object of another applet", card, 3, 0, 0);
            for (int index = 0; index < 4; index++) {
                loadGood(card, 1, 0, true, ROOT, 0, PUSH, index, PUSH, 99, PUT, 0, NULL, 0, SETROOT, index == 3 ? 0 : 1, PUSH, 0, RETURN, 0);
                dueReturned("is filled and then gone", card, 2, 0, 0);
            }
            due("it is gone", card.length(1, 0), 0);
            dueReturned("new objects", card, 0, 0, 0);
            due("the lasting one's traits", card.traits(0, 0), 2);
            due("the passing one's traits", card.traits(0, 1), 0);
            for (int index = 0; index < 4; index++) {
                due("the lasting one's element " + index, card.element(0, 0, index), 0);
                due("the passing one's element " + index, card.element(0, 1, index), 0);
            }
        }
    }

    private static void get() {
        sentence("12 GET takes a reference and a number (the index); adds the element");
        for (int size = 1; size <= 4; size++) {
            TearSafeCard card = cardWithObject(size);
            loadGood(card, 0, 1, true, PUSH, 100, ROOT, 0, LOAD, 0, GET, 0, SUB, 0, RETURN, 0);
            for (int index = 0; index < size; index++) {
                dueReturned("element " + index + " of " + size, card, 1, index, 100 - 11 - index);
                due("it stays", card.element(0, 0, index), 11 + index);
            }
        }
    }

    private static void putElement() {
        sentence("13 PUT takes a reference, a number (the index), a number, which becomes the element");
        int[] numbers = {-32768, -1, 0, 32767};
        for (int size = 1; size <= 4; size++) {
            for (int index = 0; index < size; index++) {
                TearSafeCard card = cardWithObject(size);
                loadGood(card, 0, 1, true, PUSH, 77, ROOT, 0, PUSH, index, LOAD, 0, PUT, 0, RETURN, 0);
                for (int number : numbers) {
                    dueReturned("the entry below stays", card, 1, number, 77);
                    due("element " + index + " of " + size, card.element(0, 0, index), number);
                }
                for (int other = 0; other < size; other++) {
                    int want = other == index ? 32767 : 11 + other;
                    due("element " + other + " when " + index + " is put", card.element(0, 0, other), want);
                }
            }
        }
    }

    private static void share() {
        sentence("14 SHARE takes a reference; the object is shared from now on");
        TearSafeCard card = cardWithObject(1);
        loadGood(card, 1, 0, true, FOREIGN, 0, PUSH, 0, GET, 0, RETURN, 0);
        loadGood(card, 0, 1, true, PUSH, 5, ROOT, 0, LOAD, 0, JZERO, 6, SHARE, 0, JUMP, 7, DROP, 0, CALL, 2, RETURN, 0);
        dueRun("before SHARE", card, 1, 0, TearSafeCard.WALL, 0, 34);
        dueReturned("right after SHARE, in the same run", card, 1, 1, 11);
        dueReturned("in a later run", card, 2, 0, 11);
        dueReturned("SHARE of a shared object", card, 1, 1, 11);
        due("traits", card.traits(0, 0), 3);
        card.reset();
        dueReturned("after power off and on", card, 2, 0, 11);
    }

    private static void lengthOf() {
        sentence("15 LENGTH takes a reference; adds the number of elements");
        for (int size = 1; size <= 4; size++) {
            TearSafeCard card = cardWithObject(size);
            loadGood(card, 0, 1, true, PUSH, 50, ROOT, 0, LENGTH, 0, SUB, 0, RETURN, 0);
            dueReturned("LENGTH of " + size, card, 1, 0, 50 - size);
        }
    }

    private static void foreign() {
        sentence("16 FOREIGN b adds root b mod 2 of applet b / 2 (b 0 .. 5)");
        int[] wrong = {-1, 6, 7, Integer.MIN_VALUE, Integer.MAX_VALUE};
        for (int b : wrong) {
            bad("FOREIGN " + b, FOREIGN, b, LENGTH, 0, RETURN, 0);
        }
        for (int b = 0; b <= 5; b++) {
            TearSafeCard card = card();
            loadGood(card, b / 2, 0, true, PUSH, 3, NEW, 0, DUP, 0, SHARE, 0, SETROOT, b % 2, PUSH, 0, RETURN, 0);
            dueReturned("root " + b + " alone is set", card, b / 2 * 2, 0, 0);
            for (int other = 0; other <= 5; other++) {
                for (int applet = 0; applet < 3; applet++) {
                    loadGood(card, applet, 1, true, FOREIGN, other, LENGTH, 0, RETURN, 0);
                    String what = "FOREIGN " + other + " in applet " + applet + " with root " + b + " set";
                    if (other == b) {
                        dueReturned(what, card, 2 * applet + 1, 0, 3);
                    } else {
                        dueFailed(what, card, 2 * applet + 1, 0, TearSafeCard.NULL, 1);
                    }
                }
            }
        }
    }

    private static void nullReference() {
        sentence("17 NULL adds a null reference");
        TearSafeCard card = cardWithObject(2);
        loadGood(card, 0, 1, true, NULL, 0, LENGTH, 0, RETURN, 0);
        dueFailed("it is null", card, 1, 0, TearSafeCard.NULL, 1);
        loadGood(card, 0, 1, true, NULL, 0, SETROOT, 0, PUSH, 1, RETURN, 0);
        dueReturned("it goes into a root", card, 1, 0, 1);
        due("the root is null", card.traits(0, 0), -1);
        bad("it is no number", NULL, 0, RETURN, 0);
    }

    private static void call() {
        sentence("18 CALL b takes a number; calls method b mod 2 of applet b / 2 (b 0 .. 5) with it; adds the number that it answers");
        int[] wrong = {-1, 6, 7, Integer.MIN_VALUE, Integer.MAX_VALUE};
        for (int b : wrong) {
            bad("CALL " + b, PUSH, 0, CALL, b, RETURN, 0);
        }
        for (int b = 0; b <= 5; b++) {
            TearSafeCard card = card();
            for (int number = 0; number <= 5; number++) {
                loadGood(card, number / 2, number % 2, true, LOAD, 0, PUSH, 10 * number, ADD, 0, RETURN, 0);
            }
            int caller = b == 0 ? 1 : 0;
            loadGood(card, 0, caller, true, PUSH, 1, LOAD, 0, CALL, b, SUB, 0, RETURN, 0);
            dueReturned("CALL " + b, card, caller, 7, 1 - (7 + 10 * b));
        }
        TearSafeCard card = card();
        loadGood(card, 2, 1, true, LOAD, 0, RETURN, 0);
        loadGood(card, 1, 0, true, LOAD, 0, CALL, 5, RETURN, 0);
        int[] numbers = {-32768, -1, 0, 32767};
        for (int number : numbers) {
            dueReturned("CALL with " + number, card, 2, number, number);
        }
    }

    private static void returnNumber() {
        sentence("19 RETURN takes a number, which is the answer");
        for (int count = 1; count <= 4; count++) {
            TearSafeCard card = card();
            loadGood(card, 0, 0, true, join(times(count - 1, PUSH, 9), code(LOAD, 0, RETURN, 0)));
            dueReturned("the top of " + count, card, 0, 5, 5);
            loadGood(card, 0, 1, true, PUSH, 20, PUSH, 30, LOAD, 0, CALL, 0, SUB, 0, SUB, 0, RETURN, 0);
            dueReturned("what a called method leaves on its stack is not its caller's", card, 1, 5, 20 - (30 - 5));
            dueReturned("the least number", card, 0, -32768, -32768);
            dueReturned("the greatest number", card, 0, 32767, 32767);
        }
        TearSafeCard card = card();
        loadGood(card, 0, 0, true, PUSH, 1, RETURN, 0, PUSH, 2, RETURN, 0);
        dueReturned("nothing behind it follows", card, 0, 0, 1);
    }

    private static void dup() {
        sentence("20 DUP adds the top entry once more");
        TearSafeCard card = card();
        loadGood(card, 0, 0, true, PUSH, 1, LOAD, 0, DUP, 0, MUL, 0, SUB, 0, RETURN, 0);
        dueReturned("a number", card, 0, 5, 1 - 25);
        loadGood(card, 0, 0, true, PUSH, 2, NEW, 0, DUP, 0, SETROOT, 0, SETROOT, 1, PUSH, 0, RETURN, 0);
        dueReturned("a reference", card, 0, 0, 0);
        due("both refer to the same object", card.same(0, 1), true);
        good("a fourth entry", PUSH, 1, PUSH, 1, PUSH, 1, DUP, 0, RETURN, 0);
        bad("a fifth entry", PUSH, 1, PUSH, 1, PUSH, 1, PUSH, 1, DUP, 0, RETURN, 0);
        bad("no entry", DUP, 0, PUSH, 1, RETURN, 0);
    }

    private static void drop() {
        sentence("21 DROP takes an entry");
        TearSafeCard card = card();
        loadGood(card, 0, 0, true, LOAD, 0, PUSH, 9, DROP, 0, RETURN, 0);
        dueReturned("a number", card, 0, 5, 5);
        loadGood(card, 0, 0, true, LOAD, 0, PUSH, 2, NEW, 0, DROP, 0, RETURN, 0);
        dueReturned("a reference", card, 0, 5, 5);
        bad("no entry", DROP, 0, PUSH, 1, RETURN, 0);
        bad("the only entry", PUSH, 1, DROP, 0, RETURN, 0);
    }

    private static void transactions() {
        sentence("22 BEGIN 23 COMMIT 24 ABORT");
        for (int count = 1; count <= 4; count++) {
            TearSafeCard card = card();
            int[] entries = join(times(count - 1, PUSH, 9), code(LOAD, 0));
            loadGood(card, 0, 0, true, join(entries, code(BEGIN, 0, COMMIT, 0, BEGIN, 0, ABORT, 0, RETURN, 0)));
            dueReturned("they take and add nothing, with " + count + " entries", card, 0, 5, 5);
        }
        good("with no entry", BEGIN, 0, COMMIT, 0, BEGIN, 0, ABORT, 0, JUMP, 0);
    }

    private static void otherB() {
        sentence("b of the others is not looked at.");
        for (int b : ANY_B) {
            TearSafeCard card = card();
            loadGood(card, 0, 0, true, LOAD, 0, PUSH, 7, ADD, b, PUSH, 2, SUB, b, PUSH, 3, MUL, b, DUP, b, DROP, b, RETURN, b);
            dueReturned("ADD, SUB, MUL, DUP, DROP, RETURN with b " + b, card, 0, 5, 30);
            loadGood(card, 0, 0, true, PUSH, 2, NEW, 0, STORE, 1, LOAD, 1, PUSH, 1, LOAD, 0, PUT, b, LOAD, 1, PUSH, 1, GET, b,
                LOAD, 1, LENGTH, b, LESS, b, LOAD, 1, SHARE, b, RETURN, b);
            dueReturned("PUT, GET, LENGTH, LESS, SHARE with b " + b, card, 0, 1, 1);
            loadGood(card, 0, 0, true, BEGIN, b, ABORT, b, BEGIN, b, COMMIT, b, NULL, b, SETROOT, 1, LOAD, 0, RETURN, b);
            dueReturned("BEGIN, ABORT, COMMIT, NULL with b " + b, card, 0, 6, 6);
        }
    }

    private static void beginning() {
        sentence("A method begins with an empty stack, the number that it is called with in local 0, local 1 UNSET.");
        int[] takesOne = {STORE, JZERO, SETROOT, NEW, SHARE, LENGTH, CALL, RETURN, DUP, DROP};
        for (int op : takesOne) {
            bad("an entry for op " + op + " at the beginning", op, 0, JUMP, 0);
        }
        good("a number in local 0", LOAD, 0, RETURN, 0);
        bad("no reference in local 0", LOAD, 0, LENGTH, 0, RETURN, 0);
        bad("nothing in local 1", LOAD, 1, RETURN, 0);
        bad("not even something to drop in local 1", LOAD, 1, DROP, 0, LOAD, 0, RETURN, 0);
        TearSafeCard card = card();
        loadGood(card, 0, 1, true, LOAD, 0, PUSH, 1, SUB, 0, STORE, 0, PUSH, 99, STORE, 1, PUSH, 98, PUSH, 97, LOAD, 0, RETURN, 0);
        loadGood(card, 0, 0, true, PUSH, 4, STORE, 1, PUSH, 3, LOAD, 0, CALL, 1, SUB, 0, LOAD, 1, SUB, 0, LOAD, 0, SUB, 0, RETURN, 0);
        dueReturned("stack and locals of a called method are its own", card, 0, 20, 3 - 19 - 4 - 20);
        dueReturned("each run begins anew", card, 1, -32768, 32767);
        dueReturned("each run begins anew", card, 0, 20, 3 - 19 - 4 - 20);
    }
}

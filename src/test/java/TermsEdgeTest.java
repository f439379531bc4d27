/** The edges that "What it is" and the first paragraph of "Terms" name, sentence by sentence. */
final class TermsEdgeTest extends Support {
    public static void main(String[] args) {
        upTo512Calls();
        appletsMethodsAndRoots();
        objects();
        arithmetic();
        codeLengths();
        numberedFromZero();
        twoLocals();
        fourEntries();
        numbersAndReferences();
        end();
    }

    private static void upTo512Calls() {
        sentence("An object is used for at most 512 calls after it has been made");
        TearSafeCard card = new TearSafeCard(20);
        loadGood(card, 2, 1, false, PUSH, 4, NEW, 0, DUP, 0, SETROOT, 1, LENGTH, 0, LOAD, 0, ADD, 0, RETURN, 0);
        for (int call = 10; call <= 510; call++) {
            due("call " + call, card.run(2, 1, call), TearSafeCard.RETURNED);
        }
        due("call 511", card.result(), 514);
        due("call 512", card.length(2, 1), 4);
        card = new TearSafeCard(20);
        for (int call = 1; call <= 511; call++) {
            due("call " + call, card.put(RETURN, 0), call <= 16 ? call : TearSafeCard.REFUSED);
        }
        due("call 512", card.install(0, 0, true), TearSafeCard.BAD);
        card = new TearSafeCard(20);
        for (int call = 1; call <= 512; call++) {
            due("call " + call, card.tear(call % 103), call % 103 <= 100 ? call % 103 : -1);
        }
    }

    private static void appletsMethodsAndRoots() {
        sentence("APPLETS 0 .. 2 have two METHODS (0, 1) each, absent at first, and two ROOTS (0, 1), each null or a reference to an object.");
        TearSafeCard card = new TearSafeCard(100);
        for (int applet = -1; applet <= 3; applet++) {
            for (int number = -1; number <= 2; number++) {
                boolean isThere = applet >= 0 && applet <= 2 && (number == 0 || number == 1);
                String where = "(" + applet + ", " + number + ") at first";
                due("method" + where, card.run(applet, number, 0), isThere ? TearSafeCard.ABSENT : TearSafeCard.REFUSED);
                due("root" + where, card.traits(applet, number), -1);
            }
        }
        for (int number = 0; number < 6; number++) {
            loadGood(card, number / 2, number % 2, false, PUSH, 1 + number % 4, NEW, 0, SETROOT, number % 2, PUSH, number, RETURN, 0);
            dueReturned("method " + number, card, number, 0, number);
            for (int other = 0; other < 6; other++) {
                int length = other > number ? 0 : 1 + other % 4;
                due("root " + other + " when root " + number + " is set", card.length(other / 2, other % 2), length);
            }
        }
        for (int number = 0; number < 6; number++) {
            loadGood(card, number / 2, number % 2, false, NULL, 0, SETROOT, number % 2, PUSH, 10 + number, RETURN, 0);
            dueReturned("method " + number + " in its place", card, number, 0, 10 + number);
            due("root " + number + " is null again", card.length(number / 2, number % 2), 0);
            due("the others stay", card.held(), 5 - number);
        }
    }

    private static void objects() {
        sentence("An OBJECT has an owner (an applet), 1 .. 4 ELEMENTS (signed 16-bit numbers), is LASTING or PASSING, and PRIVATE or SHARED.");
        for (int owner = 0; owner < 3; owner++) {
            for (int size = 1; size <= 4; size++) {
                for (int passing = 0; passing < 2; passing++) {
                    object(owner, size, passing);
                }
            }
            for (int passing = 0; passing < 2; passing++) {
                TearSafeCard card = new TearSafeCard(100);
                loadGood(card, owner, 0, false, LOAD, 0, NEW, passing, SETROOT, 0, PUSH, 0, RETURN, 0);
                dueFailed("no element", card, 2 * owner, 0, TearSafeCard.BOUNDS, 1);
                dueFailed("five elements", card, 2 * owner, 5, TearSafeCard.BOUNDS, 1);
                due("there is no such object", card.held(), 0);
            }
        }
    }

    private static void object(int owner, int size, int passing) {
        String what = (passing == 0 ? "lasting" : "passing") + " object of applet " + owner + " with " + size + " elements";
        TearSafeCard card = new TearSafeCard(100);
        loadGood(card, owner, 0, false, LOAD, 0, NEW, passing, SETROOT, 1, PUSH, 0, RETURN, 0);
        dueReturned(what, card, 2 * owner, size, 0);
        int traits = 4 * owner + (passing == 0 ? 2 : 0);
        due(what + ": private", card.traits(owner, 1), traits);
        int[] numbers = {-32768, -1, 1, 32767};
        for (int index = 0; index < size; index++) {
            for (int number : numbers) {
                loadGood(card, owner, 0, false, ROOT, 1, PUSH, index, LOAD, 0, PUT, 0, ROOT, 1, PUSH, index, GET, 0, RETURN, 0);
                dueReturned(what + ": element " + index, card, 2 * owner, number, number);
                due(what + ": element " + index, card.element(owner, 1, index), number);
            }
        }
        due(what + ": length", card.length(owner, 1), size);
        due(what + ": element behind the last", card.element(owner, 1, size), 0);
        loadGood(card, owner, 0, false, ROOT, 1, SHARE, 0, PUSH, 0, RETURN, 0);
        dueReturned(what + ": SHARE", card, 2 * owner, 0, 0);
        due(what + ": shared", card.traits(owner, 1), traits + 1);
    }

    private static void arithmetic() {
        sentence("All arithmetic on numbers keeps the low 16 bits with sign.");
        int[] numbers = {-32768, -32767, -256, -182, -1, 0, 1, 2, 181, 182, 255, 256, 16384, 32766, 32767};
        for (int lower : numbers) {
            TearSafeCard card = new TearSafeCard(100);
            loadGood(card, 0, 0, false, PUSH, 1, NEW, 0, DUP, 0, SETROOT, 0, PUSH, 0, LOAD, 0, PUT, 0, PUSH, 0, RETURN, 0);
            dueReturned("the lower number is kept", card, 0, lower, 0);
            for (int op = ADD; op <= MUL; op++) {
                loadGood(card, 0, 1, false, ROOT, 0, PUSH, 0, GET, 0, LOAD, 0, op, 0, RETURN, 0);
                for (int upper : numbers) {
                    int low = Math.floorMod(exact(op, lower, upper) + 32768, 65536) - 32768;
                    dueReturned("op " + op + " of " + lower + " and " + upper, card, 1, upper, low);
                }
            }
        }
        literal(ADD, 32767, 1, -32768);
        literal(ADD, -32768, -1, 32767);
        literal(SUB, -32768, 1, 32767);
        literal(SUB, 32767, -1, -32768);
        literal(MUL, -32768, -1, -32768);
        literal(MUL, 16384, 4, 0);
        literal(MUL, 258, 127, 32766);
        literal(MUL, 259, 127, -32643);
    }

    private static int exact(int op, int lower, int upper) {
        if (op == MUL) {
            return lower * upper;
        }
        return op == ADD ? lower + upper : lower - upper;
    }

    private static void literal(int op, int lower, int upper, int due) {
        TearSafeCard card = new TearSafeCard(100);
        loadGood(card, 0, 0, false, LOAD, 0, PUSH, upper, op, 0, RETURN, 0);
        dueReturned("op " + op + " of " + lower + " and " + upper, card, 0, lower, due);
    }

    private static void codeLengths() {
        sentence("A method's code is a list of 1 .. 16 instructions");
        due("0 instructions", new TearSafeCard(100).install(0, 0, true), TearSafeCard.BAD);
        good("1 instruction", JUMP, 0);
        for (int count = 2; count <= 16; count++) {
            TearSafeCard card = new TearSafeCard(100);
            loadGood(card, 0, 0, true, join(code(PUSH, 5), times(count - 2, BEGIN, 0), code(RETURN, 0)));
            if (count <= 3) {
                dueReturned(count + " instructions", card, 0, 0, 5);
            } else {
                dueFailed(count + " instructions", card, 0, 0, TearSafeCard.NESTING, 2);
            }
        }
        TearSafeCard card = new TearSafeCard(100);
        for (int count = 1; count <= 15; count++) {
            card.put(JUMP, count);
        }
        due("the 16th", card.put(JUMP, 0), 16);
        due("the 17th", card.put(RETURN, 0), TearSafeCard.REFUSED);
        due("16 instructions", card.install(0, 0, true), 16);
    }

    private static void numberedFromZero() {
        sentence("instructions, numbered from 0");
        for (int count = 1; count <= 16; count++) {
            TearSafeCard card = new TearSafeCard(20);
            loadGood(card, 1, 1, true, times(count, JUMP, count - 1));
            dueFailed("the last of " + count, card, 3, 0, TearSafeCard.STEPS, count - 1);
            loadGood(card, 1, 1, true, times(count, JUMP, 0));
            dueFailed("the first of " + count, card, 3, 0, TearSafeCard.STEPS, 0);
        }
    }

    private static void twoLocals() {
        sentence("it has 2 locals");
        TearSafeCard card = new TearSafeCard(100);
        loadGood(card, 0, 0, true, PUSH, 1, STORE, 0, PUSH, 2, STORE, 1, LOAD, 0, PUSH, 10, MUL, 0, LOAD, 1, ADD, 0, RETURN, 0);
        dueReturned("local 0 and local 1 are two", card, 0, 0, 12);
        bad("no local -1", PUSH, 1, STORE, -1, PUSH, 1, RETURN, 0);
        bad("no local 2", PUSH, 1, STORE, 2, PUSH, 1, RETURN, 0);
        bad("no local 2 to load", LOAD, 2, RETURN, 0);
    }

    private static void fourEntries() {
        sentence("a stack of at most 4 entries");
        TearSafeCard card = new TearSafeCard(100);
        loadGood(card, 0, 0, true, PUSH, 1, PUSH, 2, PUSH, 4, PUSH, 8, SUB, 0, SUB, 0, SUB, 0, RETURN, 0);
        dueReturned("four entries", card, 0, 0, 1 - (2 - (4 - 8)));
        for (int count = 1; count <= 6; count++) {
            goodOrBad(count + " entries", count <= 4, join(times(count, PUSH, 7), code(RETURN, 0)));
        }
    }

    private static void numbersAndReferences() {
        sentence("an entry or local is a number or a reference (which may be null).");
        TearSafeCard card = new TearSafeCard(100);
        for (int local = 0; local < 2; local++) {
            loadGood(card, 0, 0, true, PUSH, 9, STORE, local, LOAD, local, DUP, 0, ADD, 0, RETURN, 0);
            dueReturned("a number", card, 0, 0, 18);
            loadGood(card, 0, 0, true, PUSH, 3, NEW, 1, STORE, local, LOAD, local, DUP, 0, SETROOT, 0, LENGTH, 0, RETURN, 0);
            dueReturned("a reference", card, 0, 0, 3);
            due("the reference is set", card.length(0, 0), 3);
            loadGood(card, 0, 0, true, NULL, 0, STORE, local, LOAD, local, DUP, 0, SETROOT, 0, LENGTH, 0, RETURN, 0);
            dueFailed("a null reference", card, 0, 0, TearSafeCard.NULL, 5);
            due("the null reference is set", card.length(0, 0), 0);
        }
        loadGood(card, 0, 0, true, NULL, 0, PUSH, 3, PUSH, 2, NEW, 1, PUSH, 1, DROP, 0, LENGTH, 0, ADD, 0, RETURN, 0);
        dueReturned("numbers and references beside each other", card, 0, 0, 5);
    }
}

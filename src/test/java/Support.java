import java.util.stream.IntStream;
import java.util.stream.Stream;

/** What the tests share: the instructions' names, and the counting of answers that are not as due. */
class Support {
    static final int PUSH = 0;
    static final int LOAD = 1;
    static final int STORE = 2;
    static final int ADD = 3;
    static final int SUB = 4;
    static final int MUL = 5;
    static final int LESS = 6;
    static final int JUMP = 7;
    static final int JZERO = 8;
    static final int ROOT = 9;
    static final int SETROOT = 10;
    static final int NEW = 11;
    static final int GET = 12;
    static final int PUT = 13;
    static final int SHARE = 14;
    static final int LENGTH = 15;
    static final int FOREIGN = 16;
    static final int NULL = 17;
    static final int CALL = 18;
    static final int RETURN = 19;
    static final int DUP = 20;
    static final int DROP = 21;
    static final int BEGIN = 22;
    static final int COMMIT = 23;
    static final int ABORT = 24;

    /** Applet and method, or applet and root, of which at least one is out of range. */
    static final int[][] OUT = {{-1, 0}, {-1, 1}, {3, 0}, {3, 1}, {0, -1}, {0, 2}, {1, -1}, {1, 2}, {2, -1}, {2, 2}, {-1, -1}, {3, 2},
        {-1, 2}, {3, -1}, {0, 4}, {6, 0}, {Integer.MIN_VALUE, 0}, {Integer.MAX_VALUE, 1}, {0, Integer.MIN_VALUE},
        {2, Integer.MAX_VALUE}, {Integer.MIN_VALUE, Integer.MAX_VALUE}, {Integer.MAX_VALUE, Integer.MIN_VALUE}, {65536, 0}, {0, 65536},
        {1 << 30, 0}, {1 << 31, 1}, {256, 1}};

    private static int asked;
    private static int wrong;

    private static String sentence = "";
    private static int sentences;
    private static int askedBefore;
    private static int wrongBefore;

    /** What is asked from here on is due by these words of the document, until the next ones are told. */
    static void sentence(String words) {
        endSentence();
        sentence = words;
        sentences++;
        askedBefore = asked;
        wrongBefore = wrong;
    }

    private static void endSentence() {
        if (sentence.isEmpty()) {
            return;
        }
        due("a test of its own", asked > askedBefore, true);
        if (wrong > wrongBefore) {
            System.out.println("BROKEN: " + sentence);
        }
        sentence = "";
    }

    static void due(String what, long got, long want) {
        asked++;
        if (got != want) {
            wrong++;
            System.out.println(what + ": answered " + got + ", due is " + want);
        }
    }

    static void due(String what, boolean got, boolean want) {
        due(what, got ? 1 : 0, want ? 1 : 0);
    }

    /** Puts the code, given as op, b, op, b and so on, and installs it; answers what install does. */
    static int load(TearSafeCard card, int applet, int method, boolean exported, int... code) {
        for (int at = 0; at < code.length; at += 2) {
            due("put of instruction " + at / 2, card.put(code[at], code[at + 1]), at / 2 + 1);
        }
        return card.install(applet, method, exported);
    }

    /** As load, for code that is to be taken in. */
    static void loadGood(TearSafeCard card, int applet, int method, boolean exported, int... code) {
        int got = load(card, applet, method, exported, code);
        due("install(" + applet + ", " + method + ") of good code", got, code.length / 2);
    }

    /** Runs, and looks at how the run ended, at result and at place. */
    static void dueRun(String what, TearSafeCard card, int number, int arg, int outcome, int result, int place) {
        due(what + ": run", card.run(number / 2, number % 2, arg), outcome);
        due(what + ": result", card.result(), result);
        due(what + ": place", card.place(), place);
    }

    static void dueReturned(String what, TearSafeCard card, int number, int arg, int result) {
        dueRun(what, card, number, arg, TearSafeCard.RETURNED, result, -1);
    }

    static void dueFailed(String what, TearSafeCard card, int number, int arg, int outcome, int at) {
        dueRun(what, card, number, arg, outcome, 0, 16 * number + at);
    }

    /** Asks that the code is taken in, by a card of its own. */
    static void good(String what, int... code) {
        due(what, load(new TearSafeCard(100), 1, 1, true, code), code.length / 2);
    }

    static void bad(String what, int... code) {
        due(what, load(new TearSafeCard(100), 1, 1, true, code), TearSafeCard.BAD);
    }

    static void goodOrBad(String what, boolean isGood, int... code) {
        if (isGood) {
            good(what, code);
        } else {
            bad(what, code);
        }
    }

    /** One code after the other. */
    static int[] join(int[]... parts) {
        return Stream.of(parts).flatMapToInt(IntStream::of).toArray();
    }

    static int[] code(int... code) {
        return code;
    }

    /** The same instruction, count times. */
    static int[] times(int count, int op, int b) {
        int[] code = new int[2 * count];
        for (int at = 0; at < count; at++) {
            code[2 * at] = op;
            code[2 * at + 1] = b;
        }
        return code;
    }

    /** Sets all six roots to new private, lasting objects, of length 1 in root 0 and of length 2 in root 1. */
    static void fillRoots(TearSafeCard card) {
        for (int applet = 0; applet < 3; applet++) {
            loadGood(card, applet, 0, true, PUSH, 1, NEW, 0, SETROOT, 0, PUSH, 2, NEW, 0, SETROOT, 1, PUSH, 0, RETURN, 0);
            dueReturned("two roots are set", card, 2 * applet, 0, 0);
        }
        due("six are held", card.held(), 6);
    }

    /** Each root refers to a lasting object of length root + 1, but 4 at most, whose elements are 10 * root + index + 1. */
    static TearSafeCard fullCard() {
        TearSafeCard card = new TearSafeCard(100);
        for (int root = 0; root < 6; root++) {
            int applet = root / 2;
            loadGood(card, applet, 0, true, PUSH, size(root), NEW, 0, SETROOT, root % 2, PUSH, 0, RETURN, 0);
            dueReturned("an object", card, 2 * applet, 0, 0);
            loadGood(card, applet, 0, true, ROOT, root % 2, LOAD, 0, LOAD, 0, PUSH, 10 * root + 1, ADD, 0, PUT, 0, PUSH, 0, RETURN, 0);
            for (int index = 0; index < size(root); index++) {
                due("an element", card.run(applet, 0, index), TearSafeCard.RETURNED);
            }
        }
        return card;
    }

    /** The length of a root's object on a full card. */
    static int size(int root) {
        return root < 4 ? root + 1 : 4;
    }

    static String at(int[] pair) {
        return "(" + pair[0] + ", " + pair[1] + ")";
    }

    static void end() {
        endSentence();
        String of = sentences == 0 ? "" : ", by " + sentences + " sentences";
        System.out.println(asked - wrong + " of " + asked + " answers are as due" + of);
        if (wrong != 0 || asked == 0) {
            System.exit(1);
        }
    }
}

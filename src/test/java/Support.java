/** What the tests share: the instructions' names, and the counting of answers that are not as due. */
class Support {
    static final int PUSH = 0;
    static final int LOAD = 1;
    static final int STORE = 2;
    static final int ADD = 3;
    static final int SUB = 4;
    static final int MUL = 5;
    static final int LESS = 6;
    static final int JUMP = 7;
    static final int JZERO = 8;
    static final int ROOT = 9;
    static final int SETROOT = 10;
    static final int NEW = 11;
    static final int GET = 12;
    static final int PUT = 13;
    static final int SHARE = 14;
    static final int LENGTH = 15;
    static final int FOREIGN = 16;
    static final int NULL = 17;
    static final int CALL = 18;
    static final int RETURN = 19;
    static final int DUP = 20;
    static final int DROP = 21;
    static final int BEGIN = 22;
    static final int COMMIT = 23;
    static final int ABORT = 24;

    private static int asked;
    private static int wrong;

    static void due(String what, long got, long want) {
        asked++;
        if (got != want) {
            wrong++;
            System.out.println(what + ": answered " + got + ", due is " + want);
        }
    }

    static void due(String what, boolean got, boolean want) {
        due(what, got ? 1 : 0, want ? 1 : 0);
    }

    /** Puts the code, given as op, b, op, b and so on, and installs it; answers what install does. */
    static int load(TearSafeCard card, int applet, int method, boolean exported, int... code) {
        for (int at = 0; at < code.length; at += 2) {
            due("put of instruction " + at / 2, card.put(code[at], code[at + 1]), at / 2 + 1);
        }
        return card.install(applet, method, exported);
    }

    /** As load, for code that is to be taken in. */
    static void loadGood(TearSafeCard card, int applet, int method, boolean exported, int... code) {
        int got = load(card, applet, method, exported, code);
        due("install(" + applet + ", " + method + ") of good code", got, code.length / 2);
    }

    /** Runs, and looks at how the run ended, at result and at place. */
    static void dueRun(String what, TearSafeCard card, int number, int arg, int outcome, int result, int place) {
        due(what + ": run", card.run(number / 2, number % 2, arg), outcome);
        due(what + ": result", card.result(), result);
        due(what + ": place", card.place(), place);
    }

    static void dueReturned(String what, TearSafeCard card, int number, int arg, int result) {
        dueRun(what, card, number, arg, TearSafeCard.RETURNED, result, -1);
    }

    static void dueFailed(String what, TearSafeCard card, int number, int arg, int outcome, int at) {
        dueRun(what, card, number, arg, outcome, 0, 16 * number + at);
    }

    static void end() {
        System.out.println(asked - wrong + " of " + asked + " answers are as due");
        if (wrong != 0 || asked == 0) {
            System.exit(1);
        }
    }
}

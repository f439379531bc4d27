import java.util.ArrayList;
import java.util.List;

/**
 * All promises: long runs of calls on the class and on CardModel, which must answer alike. The calls come from a fixed
 * row of numbers, so that every time is the same.
 */
final class ModelTest extends Support {
    private static final int CARDS = 30_000;
    /** What the document promises an object for. */
    private static final int CALLS = 512;
    /** More than any step of oneCard needs: a run, with a look at all roots after it. */
    private static final int LONGEST_STEP = 64;
    private static final int OPS = 25;

    private static long seed;
    private static TearSafeCard card;
    private static CardModel model;
    private static int calls;
    private static final List<String> told = new ArrayList<>();
    private static boolean differed;

    /** What is known of the code being put: the kinds on its stack and in its locals, and whether it has begun. */
    private static String stack;
    private static String locals;
    private static boolean begun;

    private static final long[] outcomes = new long[10];
    private static long installed;
    private static long refusedCode;

    public static void main(String[] args) {
        for (int number = 0; number < CARDS && !differed; number++) {
            seed = number * 7919L + 17;
            oneCard();
        }
        dueEnough();
        end();
    }

    /** The calls would prove little if some outcome hardly came up. */
    private static void dueEnough() {
        for (int outcome = 0; outcome < outcomes.length; outcome++) {
            due("outcome " + outcome + " came up often: " + outcomes[outcome], outcomes[outcome] > 500, true);
        }
        due("good code came up often: " + installed, installed > 10_000, true);
        due("bad code came up often: " + refusedCode, refusedCode > 10_000, true);
        StringBuilder counts = new StringBuilder("outcomes");
        for (long count : outcomes) {
            counts.append(' ').append(count);
        }
        System.out.println(counts + ", good code " + installed + ", bad code " + refusedCode);
    }

    /** Below bound, 0 or more. */
    private static int pick(int bound) {
        seed = seed * 6364136223846793005L + 1442695040888963407L;
        return (int) ((seed >>> 33) % bound);
    }

    private static boolean oneIn(int count) {
        return pick(count) == 0;
    }

    private static void oneCard() {
        int limit = oneIn(3) ? pick(300) - 20 : 250;
        card = new TearSafeCard(limit);
        model = new CardModel(limit);
        calls = 0;
        told.clear();
        told.add("new TearSafeCard(" + limit + ")");
        for (int applet = 0; applet < 3; applet++) {
            if (oneIn(2)) {
                fillRoots(applet);
            }
            installSome(applet, 0);
            installSome(applet, 1);
        }
        while (calls < CALLS - 2 * LONGEST_STEP && !differed) {
            int kind = pick(20);
            if (kind < 3) {
                int applet = number(3);
                int method = number(2);
                installSome(applet, method);
            } else if (kind < 16) {
                runSome();
            } else if (kind < 18) {
                int n = oneIn(8) ? pick(210) - 50 : pick(12);
                answered("tear(" + n + ")", card.tear(n), model.tear(n));
            } else if (kind == 18) {
                card.reset();
                model.powerOff();
                answered("reset()", 0, 0);
            } else {
                lookAtOne();
            }
        }
        lookAtAll();
        while (calls < CALLS && !differed) {
            runOne();
        }
    }

    private static void answered(String call, long got, long want) {
        calls++;
        told.add(call + " -> " + got);
        due(call, got, want);
        if (got != want && !differed) {
            differed = true;
            told.forEach(System.out::println);
        }
    }

    private static int number(int count) {
        return oneIn(60) ? pick(9) - 3 : pick(count);
    }

    private static void runOne() {
        int applet = number(3);
        int method = number(2);
        int arg = oneIn(3) ? pick(200_000) - 100_000 : pick(5);
        int got = card.run(applet, method, arg);
        answered("run(" + applet + ", " + method + ", " + arg + ")", got, model.run(applet, method, arg));
        if (got >= 0) {
            outcomes[got]++;
        }
    }

    private static void runSome() {
        runOne();
        answered("result()", card.result(), model.result());
        answered("place()", card.place(), model.place());
        if (oneIn(6)) {
            lookAtAll();
        }
    }

    private static void lookAtOne() {
        int applet = number(3);
        int root = number(2);
        int index = pick(8) - 2;
        String where = "(" + applet + ", " + root;
        answered("length" + where + ")", card.length(applet, root), model.length(applet, root));
        answered("traits" + where + ")", card.traits(applet, root), model.traits(applet, root));
        answered("element" + where + ", " + index + ")", card.element(applet, root, index), model.element(applet, root, index));
        int a = number(6);
        int b = number(6);
        answered("same(" + a + ", " + b + ")", card.same(a, b) ? 1 : 0, model.same(a, b) ? 1 : 0);
        answered("held()", card.held(), model.held());
    }

    private static void lookAtAll() {
        for (int root = 0; root < 6; root++) {
            String where = "(" + root / 2 + ", " + root % 2;
            answered("traits" + where + ")", card.traits(root / 2, root % 2), model.traits(root / 2, root % 2));
            int size = model.length(root / 2, root % 2);
            answered("length" + where + ")", card.length(root / 2, root % 2), size);
            for (int index = 0; index < size; index++) {
                int got = card.element(root / 2, root % 2, index);
                answered("element" + where + ", " + index + ")", got, model.element(root / 2, root % 2, index));
            }
            for (int other = 0; other < root; other++) {
                answered("same(" + root + ", " + other + ")", card.same(root, other) ? 1 : 0, model.same(root, other) ? 1 : 0);
            }
        }
        answered("held()", card.held(), model.held());
    }

    /** With null roots alone, most runs would fail early. */
    private static void fillRoots(int applet) {
        for (int root = 0; root < 2; root++) {
            putBoth(PUSH, 1 + pick(4));
            putBoth(NEW, pick(2));
            putBoth(DUP, 0);
            putBoth(oneIn(2) ? SHARE : DROP, 0);
            putBoth(SETROOT, root);
        }
        putBoth(LOAD, 0);
        putBoth(RETURN, 0);
        answered("install(" + applet + ", 0, true)", card.install(applet, 0, true), model.install(applet, 0, true));
        answered("run(" + applet + ", 0, 0)", card.run(applet, 0, 0), model.run(applet, 0, 0));
    }

    private static void installSome(int applet, int method) {
        int count = 2 + pick(15);
        if (oneIn(12)) {
            putWildly(count);
        } else {
            putWithCare(count);
        }
        boolean exported = !oneIn(4);
        int got = card.install(applet, method, exported);
        answered("install(" + applet + ", " + method + ", " + exported + ")", got, model.install(applet, method, exported));
        if (got == TearSafeCard.BAD) {
            refusedCode++;
        } else if (got > 0) {
            installed++;
        }
    }

    private static void putBoth(int op, int b) {
        answered("put(" + op + ", " + b + ")", card.put(op, b), model.put(op, b));
    }

    private static void putWildly(int count) {
        for (int at = 0; at < count; at++) {
            putBoth(oneIn(30) ? pick(40) - 5 : pick(OPS), oneIn(10) ? pick(400) - 200 : pick(3));
        }
    }

    /** Follows the kinds in a straight line, so that most of what is put is good but for its jumps. */
    private static void putWithCare(int count) {
        stack = "";
        locals = "nu";
        begun = oneIn(4);
        List<String> states = new ArrayList<>();
        for (int at = 0; at < count - 1; at++) {
            String state = stack + "/" + locals;
            int back = states.indexOf(state);
            states.add(state);
            if (back >= 0 && oneIn(30)) {
                putBoth(JUMP, back);
            } else if (stack.length() < 4 && at < count - 3 && oneIn(6)) {
                putFollowed(PUSH, 1 + pick(4));
                putFollowed(NEW, pick(2));
                states.add("");
                at++;
            } else {
                int op = fittingOp();
                putFollowed(op, fittingB(op, at, count));
            }
        }
        finishCode(stack);
    }

    private static void putFollowed(int op, int b) {
        putBoth(op, b);
        String takes = CardModel.TAKES[op];
        String taken = stack.substring(stack.length() - takes.length());
        stack = stack.substring(0, stack.length() - takes.length()) + CardModel.ADDS[op];
        if (op == LOAD) {
            stack += locals.charAt(b & 1);
        } else if (op == STORE) {
            locals = (b & 1) == 0 ? taken + locals.charAt(1) : locals.charAt(0) + taken;
        } else if (op == DUP) {
            stack += taken + taken;
        } else if (op >= BEGIN) {
            begun = op == BEGIN;
        }
    }

    private static void finishCode(String stack) {
        if (stack.endsWith("n")) {
            putBoth(RETURN, 0);
        } else if (stack.length() < 4) {
            putBoth(LOAD, 0);
            putBoth(RETURN, 0);
        } else {
            putBoth(JUMP, 0);
        }
    }

    private static int fittingOp() {
        for (int time = 0; time < 60; time++) {
            int op = pick(OPS);
            boolean rare = op == NULL || op == JUMP || op == ADD || op == RETURN || op == DROP || op == ABORT;
            boolean nests = op >= BEGIN && begun == (op == BEGIN);
            if (rare && !oneIn(5) || nests && !oneIn(25)) {
                continue;
            }
            String takes = CardModel.TAKES[op];
            boolean fits = stack.length() >= takes.length();
            for (int i = 0; i < takes.length() && fits; i++) {
                char wanted = takes.charAt(i);
                fits = wanted == '?' || wanted == stack.charAt(stack.length() - takes.length() + i);
            }
            int added = op == LOAD ? 1 : op == DUP ? 2 : CardModel.ADDS[op].length();
            if (fits && stack.length() - takes.length() + added <= 4) {
                return op;
            }
        }
        return BEGIN;
    }

    private static int fittingB(int op, int at, int count) {
        if (oneIn(300)) {
            return pick(600) - 300;
        }
        return switch (op) {
            case PUSH -> oneIn(5) ? pick(256) - 128 : pick(3);
            case LOAD -> locals.charAt(1) == 'u' && !oneIn(30) ? 0 : pick(2);
            case JUMP, JZERO -> oneIn(6) ? pick(count) : Math.min(count - 1, at + 1 + pick(3));
            case FOREIGN, CALL -> pick(6);
            default -> pick(2);
        };
    }
}

import java.util.ArrayDeque;
import java.util.ArrayList;
import java.util.Arrays;
import java.util.Collections;
import java.util.Deque;
import java.util.HashSet;
import java.util.IdentityHashMap;
import java.util.List;
import java.util.Map;
import java.util.Set;

/**
 * The document once more, written in another way than the class: objects are Java objects, entries are boxed, and
 * checking follows every single state of kinds instead of gathering them. ModelTest compares the two.
 */
final class CardModel {
    static final class Thing {
        int owner;
        int[] elements;
        boolean lasting;
        boolean shared;
    }

    /** A reference entry; a null target is the null reference. A number entry is an Integer. */
    record Ref(Thing target) { }

    record Instruction(int op, int b) { }

    private record Kept(int[] elements, boolean shared) { }

    private record State(int at, String stack, String locals) { }

    private static final class Method {
        List<Instruction> code;
        boolean exported;
    }

    private static final class Frame {
        int method;
        int at;
        Object[] locals = new Object[2];
        List<Object> stack = new ArrayList<>();
    }

    private static final class Failure extends RuntimeException {
        private static final long serialVersionUID = 1;
        final int outcome;

        Failure(int outcome) {
            super(null, null, false, false);
            this.outcome = outcome;
        }
    }

    private final int limit;
    private List<Instruction> pending = new ArrayList<>();
    private final Method[] methods = new Method[6];
    private Thing[] roots = new Thing[6];
    private Thing[] rootsAtBegin;
    private Map<Thing, Kept> keptAtBegin;
    private final List<Frame> frames = new ArrayList<>();
    private int tearAt = -1;
    private int answer;
    private int failedAt = -1;

    CardModel(int limit) {
        this.limit = Math.max(20, Math.min(250, limit));
    }

    int put(int op, int b) {
        if (op < 0 || op > 24 || pending.size() == 16) {
            return -1;
        }
        pending.add(new Instruction(op, b));
        return pending.size();
    }

    int install(int applet, int method, boolean exported) {
        List<Instruction> code = pending;
        pending = new ArrayList<>();
        if (applet < 0 || applet > 2 || method < 0 || method > 1) {
            return -1;
        }
        if (code.isEmpty() || !isGood(code)) {
            return 10;
        }
        Method made = new Method();
        made.code = code;
        made.exported = exported;
        methods[applet * 2 + method] = made;
        return code.size();
    }

    // Checking: every state (instruction, kinds of the stack, kinds of the locals) that a way can come to.

    private static boolean isGood(List<Instruction> code) {
        for (Instruction instruction : code) {
            if (!bIsAsSaid(instruction, code.size())) {
                return false;
            }
        }
        Set<State> seen = new HashSet<>();
        int[] depths = new int[16];
        Arrays.fill(depths, -1);
        Deque<State> open = new ArrayDeque<>();
        open.add(new State(0, "", "nu"));
        while (!open.isEmpty()) {
            State state = open.remove();
            if (state.at == code.size()) {
                return false;
            }
            if (depths[state.at] >= 0 && depths[state.at] != state.stack.length()) {
                return false;
            }
            depths[state.at] = state.stack.length();
            if (!seen.add(state)) {
                continue;
            }
            if (!follow(code.get(state.at), state, open)) {
                return false;
            }
        }
        return true;
    }

    private static boolean bIsAsSaid(Instruction instruction, int size) {
        int b = instruction.b;
        return switch (instruction.op) {
            case 0 -> -128 <= b && b <= 127;
            case 1, 2, 9, 10, 11 -> 0 <= b && b <= 1;
            case 7, 8 -> 0 <= b && b <= size - 1;
            case 16, 18 -> 0 <= b && b <= 5;
            default -> true;
        };
    }

    /** What each instruction takes (n number, r reference, ? either; the last is the top) and adds. */
    static final String[] TAKES = {"", "", "?", "nn", "nn", "nn", "nn", "", "n", "", "r", "n", "rn", "rnn", "r", "r",
        "", "", "n", "n", "?", "?", "", "", ""};
    static final String[] ADDS = {"n", "", "", "n", "n", "n", "n", "", "", "r", "", "r", "n", "", "", "n", "r", "r",
        "n", "", "", "", "", "", ""};

    private static boolean follow(Instruction instruction, State state, Deque<State> open) {
        int op = instruction.op;
        int b = instruction.b;
        String takes = TAKES[op];
        int rest = state.stack.length() - takes.length();
        if (rest < 0) {
            return false;
        }
        String taken = state.stack.substring(rest);
        for (int i = 0; i < takes.length(); i++) {
            if (takes.charAt(i) != '?' && takes.charAt(i) != taken.charAt(i)) {
                return false;
            }
        }
        String stack = state.stack.substring(0, rest) + ADDS[op];
        String locals = state.locals;
        if (op == 1) {
            stack += locals.charAt(b);
        } else if (op == 2) {
            locals = b == 0 ? taken + locals.charAt(1) : locals.charAt(0) + taken;
        } else if (op == 20) {
            stack += taken + taken;
        }
        if (stack.length() > 4 || stack.contains("u")) {
            return false;
        }
        if (op == 7 || op == 8) {
            open.add(new State(b, stack, locals));
        }
        if (op != 7 && op != 19) {
            open.add(new State(state.at + 1, stack, locals));
        }
        return true;
    }

    // Running.

    int run(int applet, int method, int arg) {
        if (applet < 0 || applet > 2 || method < 0 || method > 1) {
            return -1;
        }
        if (methods[applet * 2 + method] == null) {
            return 5;
        }
        int outcome = 0;
        call(applet * 2 + method, wrap(arg));
        try {
            int executed = 0;
            while (!frames.isEmpty()) {
                if (executed == limit) {
                    throw new Failure(1);
                }
                executed++;
                step();
            }
            failedAt = -1;
        } catch (Failure failure) {
            outcome = failure.outcome;
            Frame top = frames.get(frames.size() - 1);
            failedAt = 32 * (top.method / 2) + 16 * (top.method % 2) + top.at;
            answer = 0;
        }
        if (rootsAtBegin != null) {
            rollBack();
        }
        frames.clear();
        if (outcome == 9) {
            powerOff();
        }
        return outcome;
    }

    private static int wrap(int number) {
        return ((number + 32768) % 65536 + 65536) % 65536 - 32768;
    }

    private void call(int method, int number) {
        Frame frame = new Frame();
        frame.method = method;
        frame.locals[0] = number;
        frames.add(frame);
    }

    private Frame top() {
        return frames.get(frames.size() - 1);
    }

    private Object peek(int below) {
        List<Object> stack = top().stack;
        return stack.get(stack.size() - 1 - below);
    }

    private int number(int below) {
        return (Integer) peek(below);
    }

    private Thing thing(int below) {
        return ((Ref) peek(below)).target;
    }

    private void step() {
        Frame frame = top();
        Instruction instruction = methods[frame.method].code.get(frame.at);
        int op = instruction.op;
        int b = instruction.b;
        int applet = frame.method / 2;
        look(op, b, applet);
        boolean write = op == 10 || op == 14 || op == 23 || op == 11 && b == 0 || op == 13 && thing(2).lasting;
        if (write && tearAt == 0) {
            throw new Failure(9);
        }
        if (write && tearAt > 0) {
            tearAt--;
        }
        int size = frame.stack.size();
        int taken = TAKES[op].length();
        List<Object> args = new ArrayList<>(frame.stack.subList(size - taken, size));
        frame.stack.subList(size - taken, size).clear();
        frame.at++;
        act(op, b, applet, frame, args);
    }

    private void look(int op, int b, int applet) {
        if (op >= 12 && op <= 15) {
            Thing thing = thing(op == 12 ? 1 : op == 13 ? 2 : 0);
            failIf(thing == null, 2);
            failIf(thing.owner != applet && (op == 14 || !thing.shared), 3);
            if (op <= 13) {
                int index = number(op - 12);
                failIf(index < 0 || index >= thing.elements.length, 4);
            }
        } else if (op == 11) {
            failIf(number(0) < 1 || number(0) > 4, 4);
            failIf(allHeld().size() == 8, 7);
        } else if (op == 18) {
            failIf(methods[b] == null, 5);
            failIf(b / 2 != applet && !methods[b].exported, 3);
            failIf(frames.size() == 4, 6);
        } else if (op >= 22) {
            failIf((op == 22) == (rootsAtBegin != null), 8);
        }
    }

    private static void failIf(boolean failed, int outcome) {
        if (failed) {
            throw new Failure(outcome);
        }
    }

    private void act(int op, int b, int applet, Frame frame, List<Object> args) {
        List<Object> stack = frame.stack;
        switch (op) {
            case 0 -> stack.add(b);
            case 1 -> stack.add(frame.locals[b]);
            case 2 -> frame.locals[b] = args.get(0);
            case 3, 4, 5, 6 -> stack.add(calculated(op, (Integer) args.get(0), (Integer) args.get(1)));
            case 7 -> frame.at = b;
            case 8 -> frame.at = (Integer) args.get(0) == 0 ? b : frame.at;
            case 9 -> stack.add(new Ref(roots[2 * applet + b]));
            case 10 -> roots[2 * applet + b] = ((Ref) args.get(0)).target;
            case 11 -> stack.add(new Ref(made(applet, (Integer) args.get(0), b == 0)));
            case 12 -> stack.add(((Ref) args.get(0)).target.elements[(Integer) args.get(1)]);
            case 13 -> ((Ref) args.get(0)).target.elements[(Integer) args.get(1)] = (Integer) args.get(2);
            case 14 -> ((Ref) args.get(0)).target.shared = true;
            case 15 -> stack.add(((Ref) args.get(0)).target.elements.length);
            case 16 -> stack.add(new Ref(roots[b]));
            case 17 -> stack.add(new Ref(null));
            case 18 -> call(b, (Integer) args.get(0));
            case 19 -> giveBack((Integer) args.get(0));
            case 20 -> Collections.addAll(stack, args.get(0), args.get(0));
            case 22 -> begin();
            case 23 -> rootsAtBegin = null;
            case 24 -> rollBack();
            default -> { }
        }
    }

    private static int calculated(int op, int lower, int upper) {
        return switch (op) {
            case 3 -> wrap(lower + upper);
            case 4 -> wrap(lower - upper);
            case 5 -> (int) (short) (lower * upper);
            default -> lower < upper ? 1 : 0;
        };
    }

    private static Thing made(int owner, int size, boolean lasting) {
        Thing thing = new Thing();
        thing.owner = owner;
        thing.elements = new int[size];
        thing.lasting = lasting;
        return thing;
    }

    private void giveBack(int number) {
        frames.remove(frames.size() - 1);
        if (frames.isEmpty()) {
            answer = number;
        } else {
            top().stack.add(number);
        }
    }

    private Set<Thing> allHeld() {
        Set<Thing> found = Collections.newSetFromMap(new IdentityHashMap<>());
        Collections.addAll(found, roots);
        if (rootsAtBegin != null) {
            Collections.addAll(found, rootsAtBegin);
        }
        for (Frame frame : frames) {
            List<Object> entries = new ArrayList<>(frame.stack);
            Collections.addAll(entries, frame.locals);
            for (Object entry : entries) {
                if (entry instanceof Ref ref) {
                    found.add(ref.target);
                }
            }
        }
        found.remove(null);
        return found;
    }

    private void begin() {
        keptAtBegin = new IdentityHashMap<>();
        for (Thing thing : allHeld()) {
            keptAtBegin.put(thing, new Kept(thing.elements.clone(), thing.shared));
        }
        rootsAtBegin = roots.clone();
    }

    private void rollBack() {
        roots = rootsAtBegin;
        rootsAtBegin = null;
        keptAtBegin.forEach((thing, kept) -> {
            thing.shared = kept.shared;
            if (thing.lasting) {
                thing.elements = kept.elements;
            }
        });
    }

    int result() {
        return answer;
    }

    int place() {
        return failedAt;
    }

    int tear(int n) {
        tearAt = n < 0 || n > 100 ? -1 : n;
        return tearAt;
    }

    void powerOff() {
        tearAt = -1;
        for (Thing thing : allHeld()) {
            if (!thing.lasting) {
                thing.elements = new int[thing.elements.length];
            }
        }
    }

    private Thing rootThing(int applet, int root) {
        return applet < 0 || applet > 2 || root < 0 || root > 1 ? null : roots[2 * applet + root];
    }

    int length(int applet, int root) {
        Thing thing = rootThing(applet, root);
        return thing == null ? 0 : thing.elements.length;
    }

    int element(int applet, int root, int index) {
        return index < 0 || index >= length(applet, root) ? 0 : rootThing(applet, root).elements[index];
    }

    int traits(int applet, int root) {
        Thing thing = rootThing(applet, root);
        return thing == null ? -1 : thing.owner * 4 + (thing.lasting ? 2 : 0) + (thing.shared ? 1 : 0);
    }

    boolean same(int a, int b) {
        return a >= 0 && a < 6 && b >= 0 && b < 6 && roots[a] != null && roots[a] == roots[b];
    }

    int held() {
        return allHeld().size();
    }
}
